/-! 64 bits without a sign -/
def UN (x : Int64) : Nat := x.toBitVec.toNat
theorem UN_lt (x : Int64) : UN x < 18446744073709551616 := x.toBitVec.isLt
theorem UN_mod (x : Int64) : ((UN x : Nat) : Int) = x.toInt % 18446744073709551616 := by
  have h3 : x.toBitVec.toInt = x.toInt := rfl
  have h4 := UN_lt x
  unfold UN at h4 ⊢
  rw [BitVec.toInt_eq_toNat_cond] at h3
  split at h3 <;> omega
theorem UN_mul (x y : Int64) : UN (x * y) = (UN x * UN y) % 18446744073709551616 := by
  show (x * y).toBitVec.toNat = _
  rw [Int64.toBitVec_mul, BitVec.toNat_mul]; rfl
theorem UN_mul_le {l h m n q : Int64} (hq : UN q = 18446744073709551615 / UN n) (hn : UN n ≠ 0) (h1 : UN h ≤ UN q) (hl : UN l ≤ UN h) (hm : UN m ≤ UN n) : UN (l * m) ≤ UN (h * n) := by
  have h2 : UN h * UN n ≤ 18446744073709551615 := by
    have h3 : UN h * UN n ≤ UN q * UN n := Nat.mul_le_mul_right _ h1
    have h4 : UN q * UN n ≤ 18446744073709551615 := by rw [hq]; exact Nat.div_mul_le_self _ _
    omega
  have h5 : UN l * UN m ≤ UN h * UN n := Nat.mul_le_mul hl hm
  rw [UN_mul, UN_mul, Nat.mod_eq_of_lt (by omega), Nat.mod_eq_of_lt (by omega)]
  exact h5
theorem UN_div_le {l h m n a b : Int64} (ha : UN a = UN l / UN n) (hb : UN b = UN h / UN m) (hm : UN m ≠ 0) (hl : UN l ≤ UN h) (hmn : UN m ≤ UN n) : UN a ≤ UN b := by
  rw [ha, hb]
  exact Nat.le_trans (Nat.div_le_div_right hl) (Nat.div_le_div_left hmn (by omega))
theorem UN_add (x y : Int64) : UN (x + y) = (UN x + UN y) % 18446744073709551616 := by
  show (x + y).toBitVec.toNat = _
  rw [Int64.toBitVec_add, BitVec.toNat_add]; rfl
theorem UN_sub (x y : Int64) : UN (x - y) = (18446744073709551616 - UN y + UN x) % 18446744073709551616 := by
  show (x - y).toBitVec.toNat = _
  rw [Int64.toBitVec_sub, BitVec.toNat_sub]; rfl
/-- the JDK's division without a sign, by a divisor that is not below 0 as it stands -/
theorem udiv_pos {x y a b c d r f g h k z : Int64} (hy : 0 < y.toInt) (e1 : UN a = UN x / 2) (e2 : UN b = UN a / UN y) (e3 : UN c = 2 * UN b) (e4 : d = c * y) (e5 : r = x - d) (e6 : f = r - y) (e7 : UN g = 18446744073709551615 - UN f) (e8 : 9223372036854775808 ≤ UN h ↔ (9223372036854775808 ≤ UN r ∨ 9223372036854775808 ≤ UN g)) (e9 : UN k = UN h / 9223372036854775808) (e10 : z = c + k) : UN z = UN x / UN y := by
  have Y : ((UN y : Nat) : Int) = y.toInt := by
    have := UN_mod y
    have h1 := y.toInt_lt
    omega
  have hY : 0 < UN y := by omega
  have hY2 : UN y < 9223372036854775808 := by
    have h1 := y.toInt_lt
    omega
  have hx := UN_lt x
  -- UN x / 2 = UN b * UN y + s
  have hs := Nat.div_add_mod (UN x / 2) (UN y)
  have hs2 := Nat.mod_lt (UN x / 2) hY
  rw [e1] at e2
  rw [← e2] at hs
  have hx2 := Nat.div_add_mod (UN x) 2
  have hx3 := Nat.mod_lt (UN x) (show 2 > 0 by decide)
  have hcy : UN c * UN y = 2 * (UN y * UN b) := by rw [e3, Nat.mul_assoc, Nat.mul_comm (UN b)]
  have hd : UN d = 2 * (UN y * UN b) := by
    rw [e4, UN_mul, hcy, Nat.mod_eq_of_lt (by omega)]
  have hr : UN r = UN x - UN d := by
    rw [e5, UN_sub]; omega
  have hf := UN_sub r y
  rw [← e6] at hf
  have hh := UN_lt h
  have hq : UN k = if UN y ≤ UN r then 1 else 0 := by
    rw [e9]
    split
    · have : 9223372036854775808 ≤ UN h := by rw [e8]; omega
      omega
    · have : ¬ 9223372036854775808 ≤ UN h := by rw [e8]; omega
      omega
  have hz : UN z = UN c + UN k := by
    rw [e10, UN_add]
    have hc1 : UN c ≤ UN c * UN y := Nat.le_mul_of_pos_right _ hY
    have : UN c ≤ UN x := by omega
    split at hq
    · have : UN c < UN x := by
        by_cases h1 : UN y = 1
        · rw [h1] at hd hcy hs2; omega
        · have h2 : UN c * 2 ≤ UN c * UN y := Nat.mul_le_mul_left _ (by omega)
          by_cases h3 : UN c = 0 <;> omega
      omega
    · omega
  rw [hz]
  generalize hw : UN y * UN b = w at hs hcy hd
  generalize hsg : UN x / 2 % UN y = s at hs hs2
  split at hq
  · rw [hq]
    refine (Nat.div_eq_of_lt_le ?_ ?_).symm
    · rw [Nat.add_mul, hcy, Nat.one_mul]; omega
    · rw [Nat.add_mul, Nat.add_mul, hcy, Nat.one_mul]; omega
  · rw [hq, Nat.add_zero]
    refine (Nat.div_eq_of_lt_le ?_ ?_).symm
    · rw [hcy]; omega
    · rw [Nat.add_mul, hcy, Nat.one_mul]; omega
theorem emL_add {x y z : Int64} (e : z = x + y) : z.toInt % 18446744073709551616 = (x.toInt + y.toInt) % 18446744073709551616 := by
  rw [e, Int64.toInt_add]; exact Int.bmod_emod
theorem emL_sub {x y z : Int64} (e : z = x - y) : z.toInt % 18446744073709551616 = (x.toInt - y.toInt) % 18446744073709551616 := by
  rw [e, Int64.toInt_sub]; exact Int.bmod_emod
theorem UN_ushr {x z : Int64} {y : Int32} (e : z = (x.toUInt64 >>> (y.toInt64.toUInt64 &&& Int64.toUInt64 63)).toInt64) : UN z = UN x / 2 ^ ((y.toInt64.toUInt64 &&& Int64.toUInt64 63).toNat % 64) := by
  rw [e]; show (x.toUInt64 >>> (y.toInt64.toUInt64 &&& Int64.toUInt64 63)).toNat = _
  rw [UInt64.toNat_shiftRight, Nat.shiftRight_eq_div_pow]; rfl
theorem ushr_mono {x z x2 z2 : Int64} {y : Int32} (e : z = (x.toUInt64 >>> (y.toInt64.toUInt64 &&& Int64.toUInt64 63)).toInt64) (e2 : z2 = (x2.toUInt64 >>> (y.toInt64.toUInt64 &&& Int64.toUInt64 63)).toInt64) (h : x.toInt % 18446744073709551616 ≤ x2.toInt % 18446744073709551616) : z.toInt % 18446744073709551616 ≤ z2.toInt % 18446744073709551616 := by
  rw [← UN_mod, ← UN_mod] at h ⊢
  rw [UN_ushr e, UN_ushr e2]
  exact Int.ofNat_le.mpr (Nat.div_le_div_right (Int.ofNat_le.mp h))
theorem UN_shl {x z : Int64} {y : Int32} (e : z = x <<< (y.toInt64 &&& 63)) : UN z = UN x * 2 ^ ((y.toInt64 &&& 63).toBitVec.smod 64).toNat % 18446744073709551616 := by
  rw [e]; show (x <<< (y.toInt64 &&& 63)).toBitVec.toNat = _
  rw [Int64.toBitVec_shiftLeft, BitVec.shiftLeft_eq', BitVec.toNat_shiftLeft, Nat.shiftLeft_eq]; rfl
theorem sh63 : ∀ n : Nat, n < 64 → (((Int32.ofNat n).toInt64 &&& 63).toBitVec.smod 64).toNat = n := by decide +kernel
theorem shl_mono {l h w z z2 : Int64} {s t : Int32} (e1 : z = l <<< (s.toInt64 &&& 63)) (e2 : z2 = h <<< (s.toInt64 &&& 63)) (e3 : w = (1 : Int64) <<< (t.toInt64 &&& 63)) (hs : 1 ≤ s.toInt ∧ s.toInt ≤ 63) (ht : t.toInt = 64 - s.toInt) (hw : UN h < UN w) (hl : UN l ≤ UN h) : UN z ≤ UN z2 := by
  have q1 : s = Int32.ofNat s.toInt.toNat := by
    apply Int32.toInt_inj.mp
    rw [show (Int32.ofNat s.toInt.toNat) = nI s.toInt.toNat from rfl, nI_toInt (by omega)]; omega
  have q2 : t = Int32.ofNat t.toInt.toNat := by
    apply Int32.toInt_inj.mp
    rw [show (Int32.ofNat t.toInt.toNat) = nI t.toInt.toNat from rfl, nI_toInt (by omega)]; omega
  have k1 := sh63 s.toInt.toNat (by omega)
  have k2 := sh63 t.toInt.toNat (by omega)
  rw [← q1] at k1
  rw [← q2] at k2
  have hw2 : UN w = 2 ^ t.toInt.toNat := by
    rw [UN_shl e3, k2]
    have h1 : UN (1 : Int64) = 1 := by decide
    have h2 : 2 ^ t.toInt.toNat < 2 ^ 64 := Nat.pow_lt_pow_right (by decide) (by omega)
    rw [h1, Nat.one_mul, Nat.mod_eq_of_lt (by omega)]
  have hm : 2 ^ t.toInt.toNat * 2 ^ s.toInt.toNat = 18446744073709551616 := by
    rw [← Nat.pow_add, show t.toInt.toNat + s.toInt.toNat = 64 by omega]
  have h3 : UN h * 2 ^ s.toInt.toNat < 18446744073709551616 := by
    rw [← hm]; exact Nat.mul_lt_mul_of_pos_right (by omega) (Nat.two_pow_pos _)
  have h4 : UN l * 2 ^ s.toInt.toNat ≤ UN h * 2 ^ s.toInt.toNat := Nat.mul_le_mul_right _ hl
  rw [UN_shl e1, UN_shl e2, k1, Nat.mod_eq_of_lt (by omega), Nat.mod_eq_of_lt h3]
  exact h4
/-! 64 bits without a sign: more -/
theorem UN_ff (x : Int64) : (x.toInt = 0 → ((UN x : Nat) : Int) = 0) ∧ (((UN x : Nat) : Int) = 0 → x.toInt = 0) ∧ (0 ≤ x.toInt → ((UN x : Nat) : Int) = x.toInt) ∧ ((UN x : Nat) : Int) ≤ 18446744073709551615 := by
  have h := UN_mod x
  have h1 := x.toInt_lt
  have h2 := x.le_toInt
  refine ⟨fun q => ?_, fun q => ?_, fun q => ?_, ?_⟩ <;> omega
theorem UN_flip {x z : Int64} (e : z = x + (-9223372036854775808)) : z.toInt = ((UN x : Nat) : Int) - 9223372036854775808 := by
  have h := UN_mod x
  have h1 := z.toInt_lt
  have h2 := z.le_toInt
  have h3 := x.toInt_lt
  have h4 := x.le_toInt
  have h5 := emL_add e
  have h6 : (-9223372036854775808 : Int64).toInt = -9223372036854775808 := by decide
  rw [h6] at h5
  omega
theorem UN_pos {x : Int64} (h : 0 ≤ x.toInt) : ((UN x : Nat) : Int) = x.toInt := (UN_ff x).2.2.1 h
theorem UN_of_lt {x : Int64} (h : UN x < 9223372036854775808) : x.toInt = ((UN x : Nat) : Int) := by
  have h0 := UN_mod x
  have h1 := x.toInt_lt
  have h2 := x.le_toInt
  omega
theorem UN_neg {x : Int64} (h : x.toInt < 0) : 9223372036854775808 ≤ UN x := by
  have h0 := UN_mod x
  have h1 := x.toInt_lt
  have h2 := x.le_toInt
  omega
theorem UN_div {a b y : Int64} (e : b = a / y) (hy : 0 < y.toInt) (ha : UN a < 9223372036854775808) : UN b = UN a / UN y := by
  have h1 : y ≠ -1 := fun q => by
    rw [q] at hy
    have : (-1 : Int64).toInt = -1 := by decide
    omega
  have h2 := UN_of_lt ha
  have h3 := UN_pos (x := y) (by omega)
  have h4 : b.toInt = a.toInt.tdiv y.toInt := by rw [e]; exact Int64.toInt_div_of_ne_right _ _ h1
  rw [Int.tdiv_eq_ediv_of_nonneg (by omega), h2, ← h3] at h4
  have h5 : b.toInt = ((UN a / UN y : Nat) : Int) := by rw [h4]; exact (Int.natCast_ediv _ _).symm
  have h6 := UN_pos (x := b) (by rw [h5]; exact Int.natCast_nonneg _)
  exact Int.ofNat.inj (h6.trans h5)
theorem UN_xor1 {f g : Int64} (e : g = f ^^^ (-1)) : UN g = 18446744073709551615 - UN f := by
  have h1 : g.toBitVec = ~~~ f.toBitVec := by
    rw [e, Int64.toBitVec_xor]
    have : (-1 : Int64).toBitVec = BitVec.allOnes 64 := by decide
    rw [this, BitVec.xor_allOnes]
  show g.toBitVec.toNat = _
  rw [h1, BitVec.toNat_not]
  show 2 ^ 64 - 1 - f.toBitVec.toNat = _
  unfold UN
  omega
theorem UN_msb (x : Int64) : x.toBitVec.msb = true ↔ 9223372036854775808 ≤ UN x := by
  rw [BitVec.msb_eq_decide, decide_eq_true_iff]
  exact Iff.rfl
theorem UN_or {r g h : Int64} (e : h = r ||| g) : 9223372036854775808 ≤ UN h ↔ (9223372036854775808 ≤ UN r ∨ 9223372036854775808 ≤ UN g) := by
  rw [← UN_msb, ← UN_msb, ← UN_msb, e, Int64.toBitVec_or, BitVec.msb_or, Bool.or_eq_true]
theorem UN_and {r g h : Int64} (e : h = r &&& g) : 9223372036854775808 ≤ UN h ↔ (9223372036854775808 ≤ UN r ∧ 9223372036854775808 ≤ UN g) := by
  rw [← UN_msb, ← UN_msb, ← UN_msb, e, Int64.toBitVec_and, BitVec.msb_and, Bool.and_eq_true]
theorem du_pos {x y a b c d r f g h k z : Int64} (hy : 0 < y.toInt) (e1 : a = (x.toUInt64 >>> ((1 : Int32).toInt64.toUInt64 &&& Int64.toUInt64 63)).toInt64) (e2 : b = a / y) (e3 : c = b <<< ((1 : Int32).toInt64 &&& 63)) (e4 : d = c * y) (e5 : r = x - d) (e6 : f = r - y) (e7 : g = f ^^^ (-1)) (e8 : h = r ||| g) (e9 : k = (h.toUInt64 >>> ((63 : Int32).toInt64.toUInt64 &&& Int64.toUInt64 63)).toInt64) (e10 : z = c + k) : UN z = UN x / UN y := by
  have f1 : UN a = UN x / 2 := by
    rw [UN_ushr e1, show 2 ^ (((1 : Int32).toInt64.toUInt64 &&& Int64.toUInt64 63).toNat % 64) = 2 by decide]
  have hx := UN_lt x
  have f2 : UN b = UN a / UN y := UN_div e2 hy (by omega)
  have hb : UN b ≤ UN a := by rw [f2]; exact Nat.div_le_self _ _
  have f3 : UN c = 2 * UN b := by
    rw [UN_shl e3, show 2 ^ (((1 : Int32).toInt64 &&& 63).toBitVec.smod 64).toNat = 2 by decide, Nat.mod_eq_of_lt (by omega), Nat.mul_comm]
  have f9 : UN k = UN h / 9223372036854775808 := by
    rw [UN_ushr e9, show 2 ^ (((63 : Int32).toInt64.toUInt64 &&& Int64.toUInt64 63).toNat % 64) = 9223372036854775808 by decide]
  exact udiv_pos hy f1 f2 f3 e4 e5 e6 (UN_xor1 e7) (UN_or e8) f9 e10
theorem du_neg {x y f g h z : Int64} (hy : y.toInt < 0) (e1 : f = x - y) (e2 : g = f ^^^ (-1)) (e3 : h = x &&& g) (e4 : z = (h.toUInt64 >>> ((63 : Int32).toInt64.toUInt64 &&& Int64.toUInt64 63)).toInt64) : UN z = UN x / UN y := by
  have hY := UN_neg hy
  have hx := UN_lt x
  have hy2 := UN_lt y
  have hh := UN_lt h
  have f1 := UN_sub x y
  rw [← e1] at f1
  have f2 := UN_xor1 e2
  have f3 := UN_and e3
  have f4 : UN z = UN h / 9223372036854775808 := by
    rw [UN_ushr e4, show 2 ^ (((63 : Int32).toInt64.toUInt64 &&& Int64.toUInt64 63).toNat % 64) = 9223372036854775808 by decide]
  by_cases hc : UN y ≤ UN x
  · have h1 : UN x / UN y = 1 := (Nat.div_eq_of_lt_le (by omega) (by omega))
    have : 9223372036854775808 ≤ UN h := f3.mpr ⟨by omega, by omega⟩
    omega
  · have h1 : UN x / UN y = 0 := Nat.div_eq_of_lt (by omega)
    have : ¬ 9223372036854775808 ≤ UN h := fun q => by
      obtain ⟨q1, q2⟩ := f3.mp q
      omega
    omega
/-- what lies below a power of two, told by the zeros ahead -/
def NZ (v : Nat) (k : Int) : Prop := 0 ≤ k ∧ k ≤ 64 ∧ v < 2 ^ (64 - k).toNat
theorem NZ_all {v : Nat} {k : Int} {r : Int64} {q : Int32} (h : NZ v k) (hq : q.toInt = k) (hv : v ≠ 0) (e : r = ((-1 : Int64).toUInt64 >>> (q.toInt64.toUInt64 &&& Int64.toUInt64 63)).toInt64) : v ≤ UN r := by
  obtain ⟨h0, h1, h2⟩ := h
  have h64 : k ≠ 64 := fun z => by
    rw [z] at h2
    have : (2 : Nat) ^ ((64 : Int) - 64).toNat = 1 := by decide
    omega
  have hqn : q = Int32.ofNat k.toNat := by
    apply Int32.toInt_inj.mp
    rw [show (Int32.ofNat k.toNat) = nI k.toNat from rfl, nI_toInt (by omega)]; omega
  have hs : ∀ n : Nat, n < 64 → ((Int32.ofNat n).toInt64.toUInt64 &&& Int64.toUInt64 63).toNat % 64 = n := by decide +kernel
  have h3 := UN_ushr e
  rw [hqn, hs k.toNat (by omega), show UN (-1) = 18446744073709551615 by decide] at h3
  rw [h3]
  have h4 : (64 - k).toNat = 64 - k.toNat := by omega
  rw [h4] at h2
  have h5 : 2 ^ (64 - k.toNat) * 2 ^ k.toNat = 18446744073709551616 := by
    rw [← Nat.pow_add, show 64 - k.toNat + k.toNat = 64 by omega]
  have hp := Nat.two_pow_pos k.toNat
  have h6 : (2 ^ (64 - k.toNat) - 1) * 2 ^ k.toNat ≤ 18446744073709551615 := by
    rw [Nat.sub_mul, h5, Nat.one_mul]; omega
  have h7 : 2 ^ (64 - k.toNat) - 1 ≤ 18446744073709551615 / 2 ^ k.toNat := (Nat.le_div_iff_mul_le hp).mpr h6
  omega
theorem UL_add {l h m n z z2 z3 : Int64} (e1 : z = l + m) (e2 : z2 = h + n) (e3 : z3 = h + n) (h1 : UN l ≤ UN h) (h2 : UN m ≤ UN n) (h3 : UN h ≤ UN z3) : UN z ≤ UN z2 := by
  have f1 := UN_add l m
  have f2 := UN_add h n
  rw [← e1] at f1
  rw [e3] at h3
  rw [← e2] at f2 h3
  have k1 := UN_lt l
  have k2 := UN_lt h
  have k3 := UN_lt m
  have k4 := UN_lt n
  omega
theorem UL_sub {l h m n z z2 : Int64} (e1 : z = l - n) (e2 : z2 = h - m) (h1 : UN l ≤ UN h) (h2 : UN m ≤ UN n) (h3 : UN n ≤ UN l) : UN z ≤ UN z2 := by
  have f1 := UN_sub l n
  have f2 := UN_sub h m
  rw [← e1] at f1
  rw [← e2] at f2
  have k1 := UN_lt l
  have k2 := UN_lt h
  have k3 := UN_lt m
  have k4 := UN_lt n
  omega
theorem UN_0 {x : Int64} : UN x = 0 ↔ x.toInt = 0 := by
  have h := UN_ff x
  constructor
  · intro q; exact h.2.1 (by omega)
  · intro q; have := h.1 q; omega
theorem UL_mul {l h m n z z2 q : Int64} (e1 : z = l * m) (e2 : z2 = h * n) (hq : UN q = UN (-1) / UN n) (h1 : UN h ≤ UN q) (hl : UN l ≤ UN h) (hm : UN m ≤ UN n) : UN z ≤ UN z2 := by
  rw [e1, e2]
  by_cases hn : UN n = 0
  · have hm0 : UN m = 0 := by omega
    rw [UN_mul, UN_mul, hm0, hn]
    exact Nat.le_refl _
  · rw [show UN (-1) = 18446744073709551615 by decide] at hq
    exact UN_mul_le hq hn h1 hl hm
theorem UL_mul0 {l h m n z z2 : Int64} (e1 : z = l * m) (e2 : z2 = h * n) (hn : n.toInt = 0) (hm : UN m ≤ UN n) : UN z ≤ UN z2 := by
  have hn0 : UN n = 0 := UN_0.mpr hn
  have hm0 : UN m = 0 := by omega
  rw [e1, e2, UN_mul, UN_mul, hm0, hn0]
  exact Nat.le_refl _
theorem UL_shr {x z x2 z2 : Int64} {y : Int32} (e : z = (x.toUInt64 >>> (y.toInt64.toUInt64 &&& Int64.toUInt64 63)).toInt64) (e2 : z2 = (x2.toUInt64 >>> (y.toInt64.toUInt64 &&& Int64.toUInt64 63)).toInt64) (h : UN x ≤ UN x2) : UN z ≤ UN z2 := by
  rw [UN_ushr e, UN_ushr e2]
  exact Nat.div_le_div_right h
theorem UL_shl0 {x z x2 z2 : Int64} {y : Int32} (e : z = x <<< (y.toInt64 &&& 63)) (e2 : z2 = x2 <<< (y.toInt64 &&& 63)) (hy : y.toInt = 0) (h : UN x ≤ UN x2) : UN z ≤ UN z2 := by
  have hy0 : y = 0 := Int32.toInt_inj.mp (by rw [hy]; decide)
  subst hy0
  have k1 := UN_shl e
  have k2 := UN_shl e2
  rw [show 2 ^ (((0 : Int32).toInt64 &&& 63).toBitVec.smod 64).toNat = 1 by decide, Nat.mul_one] at k1 k2
  have h3 := UN_lt x
  have h4 := UN_lt x2
  omega
theorem UN_or_le {h n z : Int64} (e : z = h ||| n) : ((UN h : Nat) : Int) ≤ ((UN z : Nat) : Int) ∧ ((UN n : Nat) : Int) ≤ ((UN z : Nat) : Int) := by
  have h1 : UN z = UN h ||| UN n := by
    show z.toBitVec.toNat = _
    rw [e, Int64.toBitVec_or, BitVec.toNat_or]; rfl
  rw [h1]
  exact ⟨Int.ofNat_le.mpr Nat.left_le_or, Int.ofNat_le.mpr Nat.right_le_or⟩
def NI (v k : Int) : Prop := 0 ≤ k ∧ k ≤ 32 ∧ (v % 4294967296).toNat < 2 ^ (32 - k).toNat
theorem NI_0 {v : Int} (h : v = 0) : NI v (32 : Int32).toInt := by
  rw [h]; exact ⟨by decide, by decide, by decide⟩
theorem NI_n (v : Int) : NI v (0 : Int32).toInt := by
  refine ⟨by decide, by decide, ?_⟩
  have h1 : (2 : Nat) ^ ((32 : Int) - (0 : Int32).toInt).toNat = 4294967296 := by decide
  rw [h1]; omega
theorem NI_mk {v r : Int} {n a b : Nat} (h0 : 0 < v) (hr : r = n ∨ r = n - 1) (h1 : r = n → v < a) (h2 : v < b) (hn : 1 ≤ n ∧ n ≤ 32 ∧ a = 2 ^ (32 - n) ∧ b = 2 ^ (33 - n)) : NI v r := by
  obtain ⟨n1, n2, n3, n4⟩ := hn
  refine ⟨by omega, by omega, ?_⟩
  have hb : 2 ^ (33 - n) ≤ 2 ^ 32 := Nat.pow_le_pow_right (by decide) (by omega)
  rw [← n4] at hb
  have h4 : (2 : Nat) ^ 32 = 4294967296 := by decide
  rcases hr with hr | hr
  · have := h1 hr
    rw [hr, show ((32 : Int) - (n : Int)).toNat = 32 - n by omega, ← n3]
    omega
  · rw [hr, show ((32 : Int) - ((n : Int) - 1)).toNat = 33 - n by omega, ← n4]
    omega
theorem NZ_pow {a b : Nat} (h : a < 2 ^ b) (c : Nat) (r : Nat) (hr : r < 2 ^ c) : a * 2 ^ c + r < 2 ^ (b + c) := by
  rw [Nat.pow_add]
  have h1 : (a + 1) * 2 ^ c ≤ 2 ^ b * 2 ^ c := Nat.mul_le_mul_right _ h
  rw [Nat.add_mul] at h1
  omega
theorem UN_l2i {i : Int64} {x : Int32} (e : x = i.toInt32) : (x.toInt % 4294967296).toNat = UN i % 4294967296 := by
  have h1 := em_l2i e
  have h2 := UN_mod i
  omega
theorem NZ_hi {i a : Int64} {x r : Int32} (e1 : a = (i.toUInt64 >>> ((32 : Int32).toInt64.toUInt64 &&& Int64.toUInt64 63)).toInt64) (e2 : x = a.toInt32) (h : NI x.toInt r.toInt) (h0 : x.toInt ≠ 0) : NZ (UN i) r.toInt := by
  obtain ⟨k0, k1, k2⟩ := h
  have f1 : UN a = UN i / 4294967296 := by
    rw [UN_ushr e1, show 2 ^ (((32 : Int32).toInt64.toUInt64 &&& Int64.toUInt64 63).toNat % 64) = 4294967296 by decide]
  have f2 := UN_l2i e2
  have f3 := UN_lt i
  rw [f2, f1, Nat.mod_eq_of_lt (by omega)] at k2
  refine ⟨k0, by omega, ?_⟩
  have f4 := NZ_pow k2 32 (UN i % 4294967296) (Nat.mod_lt _ (by decide))
  rw [show (2 : Nat) ^ 32 = 4294967296 by decide] at f4
  rw [show (64 - r.toInt).toNat = (32 - r.toInt).toNat + 32 by omega]
  have f5 := Nat.div_add_mod (UN i) 4294967296
  rw [Nat.mul_comm] at f5
  omega
theorem NZ_lo {i a : Int64} {x y q r : Int32} (e1 : a = (i.toUInt64 >>> ((32 : Int32).toInt64.toUInt64 &&& Int64.toUInt64 63)).toInt64) (e2 : x = a.toInt32) (h0 : x.toInt = 0) (e3 : y = i.toInt32) (h : NI y.toInt q.toInt) (hr : r.toInt = 32 + q.toInt) : NZ (UN i) r.toInt := by
  obtain ⟨k0, k1, k2⟩ := h
  have f1 : UN a = UN i / 4294967296 := by
    rw [UN_ushr e1, show 2 ^ (((32 : Int32).toInt64.toUInt64 &&& Int64.toUInt64 63).toNat % 64) = 4294967296 by decide]
  have f2 := UN_l2i e2
  have f3 := UN_lt i
  rw [h0, f1, Nat.mod_eq_of_lt (by omega)] at f2
  have f4 := UN_l2i e3
  rw [f4, Nat.mod_eq_of_lt (by omega)] at k2
  refine ⟨by omega, by omega, ?_⟩
  rw [hr, show (64 - (32 + q.toInt)).toNat = (32 - q.toInt).toNat by omega]
  exact k2
theorem eq_ushr {x y z : Int32} {c : Int} {k : Nat} (e : z = (x.toUInt32 >>> (y.toUInt32 &&& Int32.toUInt32 31)).toInt32) (hk : (y.toUInt32 &&& Int32.toUInt32 31).toNat % 32 = k) (hx : 0 ≤ x.toInt) (h : c = ((2 ^ k : Nat) : Int)) : z.toInt = x.toInt / c := by
  have h3 : z.toBitVec.toNat = x.toUInt32.toNat / 2 ^ k := by
    rw [e]; show (x.toUInt32 >>> (y.toUInt32 &&& Int32.toUInt32 31)).toNat = _
    rw [UInt32.toNat_shiftRight, hk, Nat.shiftRight_eq_div_pow]
  have h4 : ((x.toUInt32.toNat : Nat) : Int) = x.toInt := by
    have q1 : x.toBitVec.toInt = x.toInt := rfl
    have q2 : x.toUInt32.toNat = x.toBitVec.toNat := rfl
    rw [BitVec.toInt_eq_toNat_cond] at q1
    split at q1 <;> omega
  have h5 : x.toUInt32.toNat / 2 ^ k ≤ x.toUInt32.toNat := Nat.div_le_self _ _
  have h6 := x.toInt_lt
  have h7 : z.toInt = ((z.toBitVec.toNat : Nat) : Int) := by
    have q1 : z.toBitVec.toInt = z.toInt := rfl
    rw [BitVec.toInt_eq_toNat_cond] at q1
    split at q1 <;> omega
  rw [h7, h3, h, ← h4]
  exact Int.natCast_ediv _ _
/-- two rows, the one nowhere above the other -/
def ULA (f g : Nat → Int64) : Prop := ∀ i : Nat, UN (f i) ≤ UN (g i)
theorem ULA.put {f g f2 g2 : Nat → Int64} {i : Nat} {x y : Int64} (h : ULA f g) (e1 : f2 = vp_updL f i x) (e2 : g2 = vp_updL g i y) (hxy : UN x ≤ UN y) : ULA f2 g2 := fun j => by
  rw [e1, e2]
  unfold vp_updL
  by_cases hj : j = i
  · rw [if_pos hj, if_pos hj]; exact hxy
  · rw [if_neg hj, if_neg hj]; exact h j
theorem IS_rng {lo hi b : Int64} (h1 : UN (-64) ≤ UN lo) (h2 : UN hi ≤ UN b) (hb : b.toInt < 0) (h3 : UN lo ≤ UN hi) : -64 ≤ lo.toInt ∧ lo.toInt ≤ hi.toInt ∧ hi.toInt ≤ b.toInt := by
  rw [show UN (-64) = 18446744073709551552 by decide] at h1
  have k1 := UN_mod lo
  have k2 := UN_mod hi
  have k3 := UN_mod b
  have k4 := lo.toInt_lt
  have k5 := lo.le_toInt
  have k6 := hi.toInt_lt
  have k7 := hi.le_toInt
  have k8 := b.le_toInt
  omega
theorem eq_neg {x z : Int32} {a b : Int} (e : z = -x) (hx : rg x a b) (h : -2147483648 < a) : z.toInt = -x.toInt := by
  have h1 := hx.1
  have h3 := x.toInt_le
  have h4 : Int32.maxValue.toInt = 2147483647 := by decide
  rw [e, Int32.toInt_neg]
  exact bm32 (by omega)
