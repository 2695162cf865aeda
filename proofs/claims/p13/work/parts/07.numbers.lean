/-! numbers and how far they go; the start and the ends of a walk with its goal under a name; fields of an object by places -/
def rg (x : Int32) (a b : Int) : Prop := a ≤ x.toInt ∧ x.toInt ≤ b
def rl (x : Int64) (a b : Int) : Prop := a ≤ x.toInt ∧ x.toInt ≤ b
theorem rg_l {v : Int32} {a : Int} (h : v.toInt = a) : rg v a a := ⟨Int.le_of_eq h.symm, Int.le_of_eq h⟩
theorem rl_l {v : Int64} {a : Int} (h : v.toInt = a) : rl v a a := ⟨Int.le_of_eq h.symm, Int.le_of_eq h⟩
theorem rg_at {v : Int32} {a : Int} (h : v.toInt = a) : rg v a a := rg_l h
theorem rg_is {x : Int32} {a : Int} (h : rg x a a) : x.toInt = a := Int.le_antisymm h.2 h.1
theorem rg_any (x : Int32) : rg x (-2147483648) 2147483647 := by
  have h1 := x.le_toInt; have h2 := x.toInt_le
  unfold rg; constructor <;> simpa using by assumption
theorem rl_any (x : Int64) : rl x (-9223372036854775808) 9223372036854775807 := by
  have h1 := x.le_toInt; have h2 := x.toInt_le
  unfold rl; constructor <;> simpa using by assumption
theorem rg_w {x : Int32} {a b c d : Int} (h : rg x a b) (hw : c ≤ a ∧ b ≤ d) : rg x c d := ⟨Int.le_trans hw.1 h.1, Int.le_trans h.2 hw.2⟩
theorem rl_w {x : Int64} {a b c d : Int} (h : rl x a b) (hw : c ≤ a ∧ b ≤ d) : rl x c d := ⟨Int.le_trans hw.1 h.1, Int.le_trans h.2 hw.2⟩
theorem rg_of {x : Int32} {a b : Int} (h : a ≤ x.toInt ∧ x.toInt ≤ b) : rg x a b := h
theorem rl_of {x : Int64} {a b : Int} (h : a ≤ x.toInt ∧ x.toInt ≤ b) : rl x a b := h
theorem bm32 {n : Int} (h : -2147483648 ≤ n ∧ n ≤ 2147483647) : n.bmod 4294967296 = n := by
  apply Int.bmod_eq_of_le <;> omega
theorem bm64 {n : Int} (h : -9223372036854775808 ≤ n ∧ n ≤ 9223372036854775807) : n.bmod 18446744073709551616 = n := by
  apply Int.bmod_eq_of_le <;> omega
theorem eq_addS {x y z : Int32} (e : z = x + y) (h : -2147483648 ≤ x.toInt + y.toInt ∧ x.toInt + y.toInt ≤ 2147483647) : z.toInt = x.toInt + y.toInt := by
  rw [e, Int32.toInt_add]; exact bm32 h
theorem eq_subS {x y z : Int32} (e : z = x - y) (h : -2147483648 ≤ x.toInt - y.toInt ∧ x.toInt - y.toInt ≤ 2147483647) : z.toInt = x.toInt - y.toInt := by
  rw [e, Int32.toInt_sub]; exact bm32 h
theorem eq_mulS {x y z : Int32} (e : z = x * y) (h : -2147483648 ≤ x.toInt * y.toInt ∧ x.toInt * y.toInt ≤ 2147483647) : z.toInt = x.toInt * y.toInt := by
  rw [e, Int32.toInt_mul]; exact bm32 h
theorem eqL_addS {x y z : Int64} (e : z = x + y) (h : -9223372036854775808 ≤ x.toInt + y.toInt ∧ x.toInt + y.toInt ≤ 9223372036854775807) : z.toInt = x.toInt + y.toInt := by
  rw [e, Int64.toInt_add]; exact bm64 h
theorem eqL_subS {x y z : Int64} (e : z = x - y) (h : -9223372036854775808 ≤ x.toInt - y.toInt ∧ x.toInt - y.toInt ≤ 9223372036854775807) : z.toInt = x.toInt - y.toInt := by
  rw [e, Int64.toInt_sub]; exact bm64 h
theorem eqL_mulS {x y z : Int64} (e : z = x * y) (h : -9223372036854775808 ≤ x.toInt * y.toInt ∧ x.toInt * y.toInt ≤ 9223372036854775807) : z.toInt = x.toInt * y.toInt := by
  rw [e, Int64.toInt_mul]; exact bm64 h
section NUM
variable {x y z : Int32} {a b c d lo hi : Int}
theorem eq_add (e : z = x + y) (hx : rg x a b) (hy : rg y c d) (h : -2147483648 ≤ a + c ∧ b + d ≤ 2147483647) : z.toInt = x.toInt + y.toInt := by
  have h1 := hx.1; have h2 := hx.2; have h3 := hy.1; have h4 := hy.2
  exact eq_addS e (by omega)
theorem eq_sub (e : z = x - y) (hx : rg x a b) (hy : rg y c d) (h : -2147483648 ≤ a - d ∧ b - c ≤ 2147483647) : z.toInt = x.toInt - y.toInt := by
  have h1 := hx.1; have h2 := hx.2; have h3 := hy.1; have h4 := hy.2
  exact eq_subS e (by omega)
theorem rg_add (e : z = x + y) (hx : rg x a b) (hy : rg y c d) (h : -2147483648 ≤ lo ∧ hi ≤ 2147483647 ∧ lo = a + c ∧ hi = b + d) : rg z lo hi := by
  have h0 := eq_add e hx hy (by omega)
  have h1 := hx.1; have h2 := hx.2; have h3 := hy.1; have h4 := hy.2
  exact rg_of (by omega)
theorem rg_sub (e : z = x - y) (hx : rg x a b) (hy : rg y c d) (h : -2147483648 ≤ lo ∧ hi ≤ 2147483647 ∧ lo = a - d ∧ hi = b - c) : rg z lo hi := by
  have h0 := eq_sub e hx hy (by omega)
  have h1 := hx.1; have h2 := hx.2; have h3 := hy.1; have h4 := hy.2
  exact rg_of (by omega)
theorem mul_in {X Y a b c d : Int} (h1 : a ≤ X) (h2 : X ≤ b) (h3 : c ≤ Y) (h4 : Y ≤ d) (ha : 0 ≤ a) (hc : 0 ≤ c) : a * c ≤ X * Y ∧ X * Y ≤ b * d :=
  ⟨Int.mul_le_mul h1 h3 hc (Int.le_trans ha h1), Int.mul_le_mul h2 h4 (Int.le_trans hc h3) (Int.le_trans ha (Int.le_trans h1 h2))⟩
theorem rg_mul (e : z = x * y) (hx : rg x a b) (hy : rg y c d) (h : 0 ≤ a ∧ 0 ≤ c ∧ hi ≤ 2147483647 ∧ lo = a * c ∧ hi = b * d) : rg z lo hi := by
  have h5 := mul_in hx.1 hx.2 hy.1 hy.2 h.1 h.2.1
  have h6 : 0 ≤ a * c := Int.mul_nonneg h.1 h.2.1
  have h0 := eq_mulS e ⟨by omega, by omega⟩
  exact rg_of (by omega)
theorem eq_mull (e : z = x * y) (hx : rg x a b) (hy : rg y c d) (h : 0 ≤ a ∧ 0 ≤ c ∧ b * d ≤ 2147483647 ∧ a = b) : z.toInt = a * y.toInt := by
  have h5 := mul_in hx.1 hx.2 hy.1 hy.2 h.1 h.2.1
  have h6 : 0 ≤ a * c := Int.mul_nonneg h.1 h.2.1
  have h0 := eq_mulS e ⟨by omega, by omega⟩
  have h7 : x.toInt = a := by have q1 := hx.1; have q2 := hx.2; omega
  rw [h0, h7]
theorem eq_mulr (e : z = x * y) (hx : rg x a b) (hy : rg y c d) (h : 0 ≤ a ∧ 0 ≤ c ∧ b * d ≤ 2147483647 ∧ c = d) : z.toInt = x.toInt * c := by
  have h5 := mul_in hx.1 hx.2 hy.1 hy.2 h.1 h.2.1
  have h6 : 0 ≤ a * c := Int.mul_nonneg h.1 h.2.1
  have h0 := eq_mulS e ⟨by omega, by omega⟩
  have h7 : y.toInt = c := by have q1 := hy.1; have q2 := hy.2; omega
  rw [h0, h7]
theorem rg_ltA (h : x.toInt < y.toInt) (hx : rg x a b) (hy : rg y c d) (hw : lo = a ∧ hi = d - 1) : rg x lo hi := by
  have h1 := hx.1; have h2 := hx.2; have h3 := hy.1; have h4 := hy.2; exact rg_of (by omega)
theorem rg_ltB (h : x.toInt < y.toInt) (hx : rg x a b) (hy : rg y c d) (hw : lo = a + 1 ∧ hi = d) : rg y lo hi := by
  have h1 := hx.1; have h2 := hx.2; have h3 := hy.1; have h4 := hy.2; exact rg_of (by omega)
theorem rg_leA (h : x.toInt ≤ y.toInt) (hx : rg x a b) (hy : rg y c d) (hw : lo = a ∧ hi = d) : rg x lo hi := by
  have h1 := hx.1; have h2 := hx.2; have h3 := hy.1; have h4 := hy.2; exact rg_of (by omega)
theorem rg_leB (h : x.toInt ≤ y.toInt) (hx : rg x a b) (hy : rg y c d) (hw : lo = a ∧ hi = d) : rg y lo hi := by
  have h1 := hx.1; have h2 := hx.2; have h3 := hy.1; have h4 := hy.2; exact rg_of (by omega)
theorem rg_eqA (h : x.toInt = y.toInt) (hx : rg x a b) (hy : rg y c d) (hw : (lo = a ∨ lo = c) ∧ (hi = b ∨ hi = d)) : rg x lo hi := by
  have h1 := hx.1; have h2 := hx.2; have h3 := hy.1; have h4 := hy.2; exact rg_of (by omega)
theorem rg_eqB (h : x.toInt = y.toInt) (hx : rg x a b) (hy : rg y c d) (hw : (lo = a ∨ lo = c) ∧ (hi = b ∨ hi = d)) : rg y lo hi := by
  have h1 := hx.1; have h2 := hx.2; have h3 := hy.1; have h4 := hy.2; exact rg_of (by omega)
theorem rg_neAl (h : x.toInt ≠ y.toInt) (hx : rg x a b) (hy : rg y c d) (hw : c = d ∧ a = c ∧ lo = a + 1 ∧ hi = b) : rg x lo hi := by
  have h1 := hx.1; have h2 := hx.2; have h3 := hy.1; have h4 := hy.2; exact rg_of (by omega)
theorem rg_neAh (h : x.toInt ≠ y.toInt) (hx : rg x a b) (hy : rg y c d) (hw : c = d ∧ b = c ∧ lo = a ∧ hi = b - 1) : rg x lo hi := by
  have h1 := hx.1; have h2 := hx.2; have h3 := hy.1; have h4 := hy.2; exact rg_of (by omega)
theorem rg_neBl (h : x.toInt ≠ y.toInt) (hx : rg x a b) (hy : rg y c d) (hw : a = b ∧ c = a ∧ lo = c + 1 ∧ hi = d) : rg y lo hi := by
  have h1 := hx.1; have h2 := hx.2; have h3 := hy.1; have h4 := hy.2; exact rg_of (by omega)
theorem rg_neBh (h : x.toInt ≠ y.toInt) (hx : rg x a b) (hy : rg y c d) (hw : a = b ∧ d = a ∧ lo = c ∧ hi = d - 1) : rg y lo hi := by
  have h1 := hx.1; have h2 := hx.2; have h3 := hy.1; have h4 := hy.2; exact rg_of (by omega)
theorem rg_ltX (hx : rg x a b) (hy : rg y c d) (hw : d ≤ a) : ¬ x.toInt < y.toInt := by
  have h1 := hx.1; have h2 := hx.2; have h3 := hy.1; have h4 := hy.2; omega
theorem rg_leX (hx : rg x a b) (hy : rg y c d) (hw : d < a) : ¬ x.toInt ≤ y.toInt := by
  have h1 := hx.1; have h2 := hx.2; have h3 := hy.1; have h4 := hy.2; omega
theorem rg_eqX (hx : rg x a b) (hy : rg y c d) (hw : d < a ∨ b < c) : ¬ x.toInt = y.toInt := by
  have h1 := hx.1; have h2 := hx.2; have h3 := hy.1; have h4 := hy.2; omega
theorem rg_neX (hx : rg x a b) (hy : rg y c d) (hw : a = b ∧ c = d ∧ a = c) : ¬ x.toInt ≠ y.toInt := by
  have h1 := hx.1; have h2 := hx.2; have h3 := hy.1; have h4 := hy.2; omega
theorem i_lt (h : x < y) : x.toInt < y.toInt := Int32.lt_iff_toInt_lt.mp h
theorem i_nlt (h : ¬ x < y) : y.toInt ≤ x.toInt := Int.not_lt.mp fun q => h (Int32.lt_iff_toInt_lt.mpr q)
theorem i_le (h : x ≤ y) : x.toInt ≤ y.toInt := Int32.le_iff_toInt_le.mp h
theorem i_nle (h : ¬ x ≤ y) : y.toInt < x.toInt := Int.not_le.mp fun q => h (Int32.le_iff_toInt_le.mpr q)
theorem i_eq (h : x = y) : x.toInt = y.toInt := congrArg _ h
theorem i_ne (h : ¬ x = y) : x.toInt ≠ y.toInt := fun q => h (Int32.toInt_inj.mp q)
theorem i_nne (h : ¬ x ≠ y) : x.toInt = y.toInt := congrArg _ (Classical.not_not.mp h)
theorem rg_ne0 (h : rg x a b) (hw : 0 < a ∨ b < 0) : ¬ x = 0 := fun q => by
  have h1 := h.1; have h2 := h.2
  rw [q] at h1 h2
  have : (0 : Int32).toInt = 0 := by decide
  omega
theorem rg_nz (h : x.toInt ≠ 0) : ¬ x = 0 := fun q => h (by rw [q]; decide)
theorem in_of {i : Int32} {n : Nat} (h : 0 ≤ i.toInt ∧ i.toInt < (n : Int)) : vp_in i n := vp_in_iff.mpr h
theorem in_rg {i : Int32} {n : Nat} (h : rg i a b) (hw : 0 ≤ a ∧ b < (n : Int)) : vp_in i n := in_of ⟨Int.le_trans hw.1 h.1, Int.lt_of_le_of_lt h.2 hw.2⟩
theorem rg_len {n : Nat} {v : Int32} (e : v = Int32.ofNat n) (h : (a : Int) ≤ n ∧ (n : Int) ≤ b) (hw : 0 ≤ a ∧ b ≤ 2147483647) : rg v a b := by
  have := nI_toInt (n := n) (by omega)
  rw [e]; show a ≤ (nI n).toInt ∧ (nI n).toInt ≤ b; omega
theorem eq_len {n : Nat} {v : Int32} (e : v = Int32.ofNat n) (h : (a : Int) ≤ n ∧ (n : Int) ≤ b) (hw : 0 ≤ a ∧ b ≤ 2147483647) : v.toInt = (n : Int) := by
  have := nI_toInt (n := n) (by omega)
  rw [e]; exact this
end NUM
section NUML
variable {x y z : Int64} {a b c d lo hi : Int}
theorem eqL_add (e : z = x + y) (hx : rl x a b) (hy : rl y c d) (h : -9223372036854775808 ≤ a + c ∧ b + d ≤ 9223372036854775807) : z.toInt = x.toInt + y.toInt := by
  have h1 := hx.1; have h2 := hx.2; have h3 := hy.1; have h4 := hy.2
  exact eqL_addS e (by omega)
theorem eqL_sub (e : z = x - y) (hx : rl x a b) (hy : rl y c d) (h : -9223372036854775808 ≤ a - d ∧ b - c ≤ 9223372036854775807) : z.toInt = x.toInt - y.toInt := by
  have h1 := hx.1; have h2 := hx.2; have h3 := hy.1; have h4 := hy.2
  exact eqL_subS e (by omega)
theorem rgL_add (e : z = x + y) (hx : rl x a b) (hy : rl y c d) (h : -9223372036854775808 ≤ lo ∧ hi ≤ 9223372036854775807 ∧ lo = a + c ∧ hi = b + d) : rl z lo hi := by
  have h0 := eqL_add e hx hy (by omega)
  have h1 := hx.1; have h2 := hx.2; have h3 := hy.1; have h4 := hy.2
  exact rl_of (by omega)
theorem rgL_sub (e : z = x - y) (hx : rl x a b) (hy : rl y c d) (h : -9223372036854775808 ≤ lo ∧ hi ≤ 9223372036854775807 ∧ lo = a - d ∧ hi = b - c) : rl z lo hi := by
  have h0 := eqL_sub e hx hy (by omega)
  have h1 := hx.1; have h2 := hx.2; have h3 := hy.1; have h4 := hy.2
  exact rl_of (by omega)
theorem rgL_mul (e : z = x * y) (hx : rl x a b) (hy : rl y c d) (h : 0 ≤ a ∧ 0 ≤ c ∧ hi ≤ 9223372036854775807 ∧ lo = a * c ∧ hi = b * d) : rl z lo hi := by
  have h5 := mul_in hx.1 hx.2 hy.1 hy.2 h.1 h.2.1
  have h6 : 0 ≤ a * c := Int.mul_nonneg h.1 h.2.1
  have h0 := eqL_mulS e ⟨by omega, by omega⟩
  exact rl_of (by omega)
theorem eqL_mull (e : z = x * y) (hx : rl x a b) (hy : rl y c d) (h : 0 ≤ a ∧ 0 ≤ c ∧ b * d ≤ 9223372036854775807 ∧ a = b) : z.toInt = a * y.toInt := by
  have h5 := mul_in hx.1 hx.2 hy.1 hy.2 h.1 h.2.1
  have h6 : 0 ≤ a * c := Int.mul_nonneg h.1 h.2.1
  have h0 := eqL_mulS e ⟨by omega, by omega⟩
  have h7 : x.toInt = a := by have q1 := hx.1; have q2 := hx.2; omega
  rw [h0, h7]
theorem eqL_mulr (e : z = x * y) (hx : rl x a b) (hy : rl y c d) (h : 0 ≤ a ∧ 0 ≤ c ∧ b * d ≤ 9223372036854775807 ∧ c = d) : z.toInt = x.toInt * c := by
  have h5 := mul_in hx.1 hx.2 hy.1 hy.2 h.1 h.2.1
  have h6 : 0 ≤ a * c := Int.mul_nonneg h.1 h.2.1
  have h0 := eqL_mulS e ⟨by omega, by omega⟩
  have h7 : y.toInt = c := by have q1 := hy.1; have q2 := hy.2; omega
  rw [h0, h7]
theorem rl_ltA (h : x.toInt < y.toInt) (hx : rl x a b) (hy : rl y c d) (hw : lo = a ∧ hi = d - 1) : rl x lo hi := by
  have h1 := hx.1; have h2 := hx.2; have h3 := hy.1; have h4 := hy.2; exact rl_of (by omega)
theorem rl_ltB (h : x.toInt < y.toInt) (hx : rl x a b) (hy : rl y c d) (hw : lo = a + 1 ∧ hi = d) : rl y lo hi := by
  have h1 := hx.1; have h2 := hx.2; have h3 := hy.1; have h4 := hy.2; exact rl_of (by omega)
theorem rl_leA (h : x.toInt ≤ y.toInt) (hx : rl x a b) (hy : rl y c d) (hw : lo = a ∧ hi = d) : rl x lo hi := by
  have h1 := hx.1; have h2 := hx.2; have h3 := hy.1; have h4 := hy.2; exact rl_of (by omega)
theorem rl_leB (h : x.toInt ≤ y.toInt) (hx : rl x a b) (hy : rl y c d) (hw : lo = a ∧ hi = d) : rl y lo hi := by
  have h1 := hx.1; have h2 := hx.2; have h3 := hy.1; have h4 := hy.2; exact rl_of (by omega)
theorem rl_eqA (h : x.toInt = y.toInt) (hx : rl x a b) (hy : rl y c d) (hw : (lo = a ∨ lo = c) ∧ (hi = b ∨ hi = d)) : rl x lo hi := by
  have h1 := hx.1; have h2 := hx.2; have h3 := hy.1; have h4 := hy.2; exact rl_of (by omega)
theorem rl_eqB (h : x.toInt = y.toInt) (hx : rl x a b) (hy : rl y c d) (hw : (lo = a ∨ lo = c) ∧ (hi = b ∨ hi = d)) : rl y lo hi := by
  have h1 := hx.1; have h2 := hx.2; have h3 := hy.1; have h4 := hy.2; exact rl_of (by omega)
theorem rl_neAl (h : x.toInt ≠ y.toInt) (hx : rl x a b) (hy : rl y c d) (hw : c = d ∧ a = c ∧ lo = a + 1 ∧ hi = b) : rl x lo hi := by
  have h1 := hx.1; have h2 := hx.2; have h3 := hy.1; have h4 := hy.2; exact rl_of (by omega)
theorem rl_neAh (h : x.toInt ≠ y.toInt) (hx : rl x a b) (hy : rl y c d) (hw : c = d ∧ b = c ∧ lo = a ∧ hi = b - 1) : rl x lo hi := by
  have h1 := hx.1; have h2 := hx.2; have h3 := hy.1; have h4 := hy.2; exact rl_of (by omega)
theorem rl_neBl (h : x.toInt ≠ y.toInt) (hx : rl x a b) (hy : rl y c d) (hw : a = b ∧ c = a ∧ lo = c + 1 ∧ hi = d) : rl y lo hi := by
  have h1 := hx.1; have h2 := hx.2; have h3 := hy.1; have h4 := hy.2; exact rl_of (by omega)
theorem rl_neBh (h : x.toInt ≠ y.toInt) (hx : rl x a b) (hy : rl y c d) (hw : a = b ∧ d = a ∧ lo = c ∧ hi = d - 1) : rl y lo hi := by
  have h1 := hx.1; have h2 := hx.2; have h3 := hy.1; have h4 := hy.2; exact rl_of (by omega)
theorem rl_ltX (hx : rl x a b) (hy : rl y c d) (hw : d ≤ a) : ¬ x.toInt < y.toInt := by
  have h1 := hx.1; have h2 := hx.2; have h3 := hy.1; have h4 := hy.2; omega
theorem rl_leX (hx : rl x a b) (hy : rl y c d) (hw : d < a) : ¬ x.toInt ≤ y.toInt := by
  have h1 := hx.1; have h2 := hx.2; have h3 := hy.1; have h4 := hy.2; omega
theorem rl_eqX (hx : rl x a b) (hy : rl y c d) (hw : d < a ∨ b < c) : ¬ x.toInt = y.toInt := by
  have h1 := hx.1; have h2 := hx.2; have h3 := hy.1; have h4 := hy.2; omega
theorem rl_neX (hx : rl x a b) (hy : rl y c d) (hw : a = b ∧ c = d ∧ a = c) : ¬ x.toInt ≠ y.toInt := by
  have h1 := hx.1; have h2 := hx.2; have h3 := hy.1; have h4 := hy.2; omega
theorem rl_ne0 (h : rl x a b) (hw : 0 < a ∨ b < 0) : ¬ x = 0 := fun q => by
  have h1 := h.1; have h2 := h.2
  rw [q] at h1 h2
  have : (0 : Int64).toInt = 0 := by decide
  omega
theorem rl_nz (h : x.toInt ≠ 0) : ¬ x = 0 := fun q => h (by rw [q]; decide)
/-- the compare of two longs -/
theorem l_lt {k : Int32} (e : k = lg_cmp x y) (h : k < 0) : x.toInt < y.toInt := by subst e; exact Int64.lt_iff_toInt_lt.mp ((lg_cmp_lt x y).mp h)
theorem l_ge {k : Int32} (e : k = lg_cmp x y) (h : 0 ≤ k) : y.toInt ≤ x.toInt := by subst e; exact Int64.le_iff_toInt_le.mp ((lg_cmp_ge x y).mp h)
theorem l_gt {k : Int32} (e : k = lg_cmp x y) (h : 0 < k) : y.toInt < x.toInt := by subst e; exact Int64.lt_iff_toInt_lt.mp ((lg_cmp_gt x y).mp h)
theorem l_le {k : Int32} (e : k = lg_cmp x y) (h : k ≤ 0) : x.toInt ≤ y.toInt := by subst e; exact Int64.le_iff_toInt_le.mp ((lg_cmp_le x y).mp h)
theorem l_eq {k : Int32} (e : k = lg_cmp x y) (h : k = 0) : x.toInt = y.toInt := by subst e; exact congrArg _ ((lg_cmp_eq x y).mp h)
theorem l_ne {k : Int32} (e : k = lg_cmp x y) (h : k ≠ 0) : x.toInt ≠ y.toInt := by subst e; exact fun q => h ((lg_cmp_eq x y).mpr (Int64.toInt_inj.mp q))
theorem l_nlt {k : Int32} (e : k = lg_cmp x y) (h : ¬ k < 0) : y.toInt ≤ x.toInt := l_ge e (Int32.not_lt.mp h)
theorem l_nge {k : Int32} (e : k = lg_cmp x y) (h : ¬ 0 ≤ k) : x.toInt < y.toInt := l_lt e (Int32.not_le.mp h)
theorem l_ngt {k : Int32} (e : k = lg_cmp x y) (h : ¬ 0 < k) : x.toInt ≤ y.toInt := l_le e (Int32.not_lt.mp h)
theorem l_nle {k : Int32} (e : k = lg_cmp x y) (h : ¬ k ≤ 0) : y.toInt < x.toInt := l_gt e (Int32.not_le.mp h)
theorem l_neq {k : Int32} (e : k = lg_cmp x y) (h : ¬ k = 0) : x.toInt ≠ y.toInt := l_ne e h
theorem l_nne {k : Int32} (e : k = lg_cmp x y) (h : ¬ k ≠ 0) : x.toInt = y.toInt := l_eq e (Classical.not_not.mp h)
end NUML
section CONV
variable {x z : Int32} {y w : Int64} {a b : Int}
theorem eq_i2l (e : w = x.toInt64) : w.toInt = x.toInt := by rw [e]; simp
theorem rl_i2l (e : w = x.toInt64) (h : rg x a b) : rl w a b := by
  have := eq_i2l e; unfold rl; rw [this]; exact h
theorem eq_l2i (e : z = y.toInt32) (h : rl y a b) (hw : -2147483648 ≤ a ∧ b ≤ 2147483647) : z.toInt = y.toInt := by
  rw [e, Int64.toInt_toInt32]; exact bm32 ⟨Int.le_trans hw.1 h.1, Int.le_trans h.2 hw.2⟩
theorem rg_l2i (e : z = y.toInt32) (h : rl y a b) (hw : -2147483648 ≤ a ∧ b ≤ 2147483647) : rg z a b := by
  have := eq_l2i e h hw; unfold rg; rw [this]; exact h
theorem rg_i2b (e : z = x.toInt8.toInt32) : rg z (-128) 127 := by
  have h1 := x.toInt8.le_toInt; have h2 := x.toInt8.toInt_le
  have h3 : Int8.maxValue.toInt = 127 := by decide
  unfold rg; rw [e, Int8.toInt_toInt32]; exact ⟨by omega, by omega⟩
theorem rg_i2s (e : z = x.toInt16.toInt32) : rg z (-32768) 32767 := by
  have h1 := x.toInt16.le_toInt; have h2 := x.toInt16.toInt_le
  have h3 : Int16.maxValue.toInt = 32767 := by decide
  unfold rg; rw [e, Int16.toInt_toInt32]; exact ⟨by omega, by omega⟩
theorem rg_neg (e : z = -x) (h : rg x a b) (hw : -2147483648 < a) : rg z (-b) (-a) := by
  have h1 := h.1; have h2 := h.2
  have h3 := x.toInt_le
  have h4 : Int32.maxValue.toInt = 2147483647 := by decide
  have : z.toInt = -x.toInt := by rw [e, Int32.toInt_neg]; exact bm32 (by omega)
  exact rg_of (by omega)
theorem nar_bool (h : rg x 0 1) : narrow .boolean (.int x) = .int x := by
  have h1 := h.1; have h2 := h.2
  have : x = 0 ∨ x = 1 := by
    by_cases h0 : x.toInt = 0
    · exact Or.inl (Int32.toInt_inj.mp (h0.trans (by decide)))
    · exact Or.inr (Int32.toInt_inj.mp (Eq.trans (by omega) (show (1 : Int) = (1 : Int32).toInt by decide)))
  rcases this with rfl | rfl <;> decide
end CONV
/-- what an array's cells hold -/
def Rg (f : Nat → Int32) (n : Nat) (a b : Int) : Prop := ∀ i, i < n → rg (f i) a b
theorem Rg_w {f : Nat → Int32} {n : Nat} {a b c d : Int} (h : Rg f n a b) (hw : c ≤ a ∧ b ≤ d) : Rg f n c d := fun i hi => rg_w (h i hi) hw
theorem in_lt {i : Int32} {n : Nat} (h : vp_in i n) : i.toNatClampNeg < n := Nat.not_le.mp fun q => h (Or.inr q)
theorem Rg_at {f : Nat → Int32} {n : Nat} {a b : Int} {i z : Int32} (h : Rg f n a b) (hi : vp_in i n) (e : z = f i.toNatClampNeg) : rg z a b := e ▸ h _ (in_lt hi)
theorem Rg_upd {f g : Nat → Int32} {n k : Nat} {a b : Int} {v : Int32} (e : g = upd f k v) (h : Rg f n a b) (hv : rg v a b) : Rg g n a b := by
  subst e
  intro i hi
  unfold upd
  split
  · exact hv
  · exact h i hi
theorem rg_narB (x : Int32) : rg (vp_nar .byte x) (-128) 127 := by rw [vp_nar_byte]; exact rg_i2b rfl
theorem Rg_zero {n : Nat} {a b : Int} (h : a ≤ 0 ∧ 0 ≤ b) : Rg (fun _ => 0) n a b := fun _ _ => rg_w (rg_l (v := 0) (by decide)) h
/-- fields by places -/
def SB (a b : List Value) (ms : List Nat) : Prop := b.length = a.length ∧ ∀ j, j ∉ ms → b[j]? = a[j]?
theorem SB.rf (a : List Value) (ms : List Nat) : SB a a ms := ⟨rfl, fun _ _ => rfl⟩
theorem SB.set {a b : List Value} {ms : List Nat} {k : Nat} {v : Value} (h : SB a b ms) (hk : k ∈ ms) : SB a (b.set k v) ms :=
  ⟨by rw [List.length_set]; exact h.1, fun j hj => by
    have hn : k ≠ j := fun q => hj (by rw [← q]; exact hk)
    rw [List.getElem?_set_ne hn]; exact h.2 j hj⟩
theorem SB.trans {a b c : List Value} {ms ns : List Nat} (h : SB a b ms) (h2 : SB b c ns) (hs : ∀ j ∈ ns, j ∈ ms) : SB a c ms :=
  ⟨h2.1.trans h.1, fun j hj => (h2.2 j (fun q => hj (hs j q))).trans (h.2 j hj)⟩
theorem SB.get {a b : List Value} {ms : List Nat} {j : Nat} {v : Value} (h : SB a b ms) (hj : j ∉ ms) (ha : a[j]? = some v) : b[j]? = some v := (h.2 j hj).trans ha
section QS
variable {S : Type} {l : Launch} {y : MethodName} {b : ByteArray} {nL : Nat} {ret : Option FieldType} {fr lo mc ms : Nat} {D : va_G} {ct : Nat → ClassId} {av : List Value} {wc : va_W} {w1 : S → va_W}
theorem KVq_of {post : S → Prop} (hy : plainName y.cls = true) (hlen : (lg_sl av).length ≤ nL)
    (body : ∀ (p : Program) (e : Env) (s : State) (m : MethodId) (below : List Frame) (meth : Method) (c : Code) (A : Nat → Prop) (Q : State → Prop), CxB p s m meth c y b nL ret D ct A → (∀ q, s.heap.size ≤ q → A q) → ∀ (H : Heap) (locs : List Loc), va_S A s.heap H locs → va_P D vwCl wc H → va_D A wc → MQ below (va_Qv post (PoC D A w1) A) av.toArray s mc ms A = Q → ∀ ls : Array Slot, lv_has ls nL (lv_args 0 av) →
      W p l e ({ frames := fr, cells := mc, slots := ms, locals := lo }) s m av.toArray below meth c H locs 0 0 Q (F0 m 0 ls [])) :
    KV l y b nL ret fr lo D ct av wc mc ms post w1 := KV_of hy hlen fun p e s m below meth c A h1 h2 h3 h4 h5 ls h6 => body p e s m below meth c A _ h1 h2 _ _ h3 h4 h5 rfl ls h6
theorem KIq_of {post : Int32 → S → Prop} (hy : plainName y.cls = true) (hlen : (lg_sl av).length ≤ nL)
    (body : ∀ (p : Program) (e : Env) (s : State) (m : MethodId) (below : List Frame) (meth : Method) (c : Code) (A : Nat → Prop) (Q : State → Prop), CxB p s m meth c y b nL ret D ct A → (∀ q, s.heap.size ≤ q → A q) → ∀ (H : Heap) (locs : List Loc), va_S A s.heap H locs → va_P D vwCl wc H → va_D A wc → MQ below (va_Qi post (PoC D A w1) A) av.toArray s mc ms A = Q → ∀ ls : Array Slot, lv_has ls nL (lv_args 0 av) →
      W p l e ({ frames := fr, cells := mc, slots := ms, locals := lo }) s m av.toArray below meth c H locs 0 0 Q (F0 m 0 ls [])) :
    KI l y b nL ret fr lo D ct av wc mc ms post w1 := KI_of hy hlen fun p e s m below meth c A h1 h2 h3 h4 h5 ls h6 => body p e s m below meth c A _ h1 h2 _ _ h3 h4 h5 rfl ls h6
theorem KLq_of {post : Int64 → S → Prop} (hy : plainName y.cls = true) (hlen : (lg_sl av).length ≤ nL)
    (body : ∀ (p : Program) (e : Env) (s : State) (m : MethodId) (below : List Frame) (meth : Method) (c : Code) (A : Nat → Prop) (Q : State → Prop), CxB p s m meth c y b nL ret D ct A → (∀ q, s.heap.size ≤ q → A q) → ∀ (H : Heap) (locs : List Loc), va_S A s.heap H locs → va_P D vwCl wc H → va_D A wc → MQ below (va_Ql post (PoC D A w1) A) av.toArray s mc ms A = Q → ∀ ls : Array Slot, lv_has ls nL (lv_args 0 av) →
      W p l e ({ frames := fr, cells := mc, slots := ms, locals := lo }) s m av.toArray below meth c H locs 0 0 Q (F0 m 0 ls [])) :
    KL l y b nL ret fr lo D ct av wc mc ms post w1 := KL_of hy hlen fun p e s m below meth c A h1 h2 h3 h4 h5 ls h6 => body p e s m below meth c A _ h1 h2 _ _ h3 h4 h5 rfl ls h6
end QS
section QE
variable {p : Program} {l : Launch} {e : Env} {R : Room} {s : State} {m : MethodId} {args : Array Value} {below : List Frame} {meth : Method} {c : Code} {H : Heap} {locs : List Loc} {cells slots : Nat} {Q : State → Prop} {cc : ByteArray} {pc : Nat} {ls : Array Slot} {D : va_G} {A : Nat → Prop} {ws : va_W} {mc ms : Nat}
theorem endq_v {S : Type} {post : S → Prop} {w1 : S → va_W} (hQ : MQ below (va_Qv post (PoC D A w1) A) args s mc ms A = Q) (hx : p.tables.exec = Jvm.exec) (hb : c.code = cc) (hr : meth.sig.returnType = none) (hlocks : meth.locks = false) (hdg : decode cc pc = .ok (.return_, 1)) (u : S) (hpost : post u) (hP : va_P D vwCl ws H) (hD : va_D A ws) (hS : va_S A s.heap H locs)
    (is : List Nat) (hs : is.filterMap (fun i => ws[i]?) = w1 u) (hnd : va_nd is = true) (hs2 : is.map (fun i => ws[i]?) = (w1 u).map some) (h1 : cells ≤ mc) (h2 : slots ≤ ms) : W p l e R s m args below meth c H locs cells slots Q (F0 m pc ls []) := by
  subst hQ; exact end_v hx hb hr hlocks hdg u hpost hP hD hS is hs hnd hs2 h1 h2
theorem endq_i {S : Type} {post : Int32 → S → Prop} {w1 : S → va_W} {ty : FieldType} (hQ : MQ below (va_Qi post (PoC D A w1) A) args s mc ms A = Q) (hx : p.tables.exec = Jvm.exec) (hb : c.code = cc) (hr : meth.sig.returnType = some ty) (hlocks : meth.locks = false) (hdg : decode cc pc = .ok (.ireturn, 1)) {r : Int32} (hnar : narrow ty (.int r) = .int r) (u : S) (hpost : post r u) (hP : va_P D vwCl ws H) (hD : va_D A ws) (hS : va_S A s.heap H locs)
    (is : List Nat) (hs : is.filterMap (fun i => ws[i]?) = w1 u) (hnd : va_nd is = true) (hs2 : is.map (fun i => ws[i]?) = (w1 u).map some) (h1 : cells ≤ mc) (h2 : slots ≤ ms) : W p l e R s m args below meth c H locs cells slots Q (F0 m pc ls [.int r]) := by
  subst hQ; exact end_i hx hb hr hlocks hdg hnar u hpost hP hD hS is hs hnd hs2 h1 h2
theorem endq_l {S : Type} {post : Int64 → S → Prop} {w1 : S → va_W} (hQ : MQ below (va_Ql post (PoC D A w1) A) args s mc ms A = Q) (hx : p.tables.exec = Jvm.exec) (hb : c.code = cc) (hr : meth.sig.returnType = some .long) (hlocks : meth.locks = false) (hdg : decode cc pc = .ok (.lreturn, 1)) {r : Int64} (u : S) (hpost : post r u) (hP : va_P D vwCl ws H) (hD : va_D A ws) (hS : va_S A s.heap H locs)
    (is : List Nat) (hs : is.filterMap (fun i => ws[i]?) = w1 u) (hnd : va_nd is = true) (hs2 : is.map (fun i => ws[i]?) = (w1 u).map some) (h1 : cells ≤ mc) (h2 : slots ≤ ms) : W p l e R s m args below meth c H locs cells slots Q (F0 m pc ls [.long r]) := by
  subst hQ; exact end_l hx hb hr hlocks hdg u hpost hP hD hS is hs hnd hs2 h1 h2
end QE
/-! the signs of bits, on numbers that aren't below 0 -/
theorem nn32 {x : Int32} {a b : Int} (h : rg x a b) (ha : 0 ≤ a) : (x.toBitVec.toNat : Int) = x.toInt ∧ x.toBitVec.toNat < 2147483648 := by
  have h1 := h.1; have h2 := h.2
  have h3 : x.toBitVec.toInt = x.toInt := rfl
  rw [BitVec.toInt_eq_toNat_cond] at h3
  have h4 := x.toBitVec.isLt
  split at h3 <;> omega
theorem nn64 {x : Int64} {a b : Int} (h : rl x a b) (ha : 0 ≤ a) : (x.toBitVec.toNat : Int) = x.toInt ∧ x.toBitVec.toNat < 9223372036854775808 := by
  have h1 := h.1; have h2 := h.2
  have h3 : x.toBitVec.toInt = x.toInt := rfl
  rw [BitVec.toInt_eq_toNat_cond] at h3
  have h4 := x.toBitVec.isLt
  split at h3 <;> omega
theorem of32 {z : Int32} {n : Nat} (h : z.toBitVec.toNat = n) (hn : n < 2147483648) : z.toInt = (n : Int) := by
  have h3 : z.toBitVec.toInt = z.toInt := rfl
  rw [BitVec.toInt_eq_toNat_cond] at h3
  split at h3 <;> omega
theorem of64 {z : Int64} {n : Nat} (h : z.toBitVec.toNat = n) (hn : n < 9223372036854775808) : z.toInt = (n : Int) := by
  have h3 : z.toBitVec.toInt = z.toInt := rfl
  rw [BitVec.toInt_eq_toNat_cond] at h3
  split at h3 <;> omega
theorem rg_andr {x y z : Int32} {c d hi : Int} (e : z = x &&& y) (hy : rg y c d) (h : 0 ≤ c ∧ hi = d) : rg z 0 hi := by
  have h1 := nn32 hy h.1
  have h2 : z.toBitVec.toNat = x.toBitVec.toNat &&& y.toBitVec.toNat := by rw [e, Int32.toBitVec_and, BitVec.toNat_and]
  have h3 : x.toBitVec.toNat &&& y.toBitVec.toNat ≤ y.toBitVec.toNat := Nat.and_le_right
  have h4 := of32 h2 (by omega)
  have h5 := hy.2
  exact rg_of (by omega)
theorem rg_andl {x y z : Int32} {a b hi : Int} (e : z = x &&& y) (hx : rg x a b) (h : 0 ≤ a ∧ hi = b) : rg z 0 hi := rg_andr (x := y) (by rw [e, Int32.and_comm]) hx h
theorem rgL_andr {x y z : Int64} {c d hi : Int} (e : z = x &&& y) (hy : rl y c d) (h : 0 ≤ c ∧ hi = d) : rl z 0 hi := by
  have h1 := nn64 hy h.1
  have h2 : z.toBitVec.toNat = x.toBitVec.toNat &&& y.toBitVec.toNat := by rw [e, Int64.toBitVec_and, BitVec.toNat_and]
  have h3 : x.toBitVec.toNat &&& y.toBitVec.toNat ≤ y.toBitVec.toNat := Nat.and_le_right
  have h4 := of64 h2 (by omega)
  have h5 := hy.2
  exact rl_of (by omega)
theorem rgL_andl {x y z : Int64} {a b hi : Int} (e : z = x &&& y) (hx : rl x a b) (h : 0 ≤ a ∧ hi = b) : rl z 0 hi := rgL_andr (x := y) (by rw [e, Int64.and_comm]) hx h
theorem rg_or {x y z : Int32} {a b c d hi : Int} {k : Nat} (e : z = x ||| y) (hx : rg x a b) (hy : rg y c d) (h : 0 ≤ a ∧ 0 ≤ c ∧ b < ((2 ^ k : Nat) : Int) ∧ d < ((2 ^ k : Nat) : Int) ∧ hi = ((2 ^ k : Nat) : Int) - 1 ∧ k ≤ 31) : rg z 0 hi := by
  have h1 := nn32 hx h.1; have h2 := nn32 hy h.2.1
  have h3 := hx.2; have h4 := hy.2
  have h5 : z.toBitVec.toNat = x.toBitVec.toNat ||| y.toBitVec.toNat := by rw [e, Int32.toBitVec_or, BitVec.toNat_or]
  have h6 : x.toBitVec.toNat ||| y.toBitVec.toNat < 2 ^ k := Nat.or_lt_two_pow (by omega) (by omega)
  have h7 : 2 ^ k ≤ 2 ^ 31 := Nat.pow_le_pow_right (by decide) h.2.2.2.2.2
  have h8 := of32 h5 (by omega)
  exact rg_of (by omega)
theorem rgL_or {x y z : Int64} {a b c d hi : Int} {k : Nat} (e : z = x ||| y) (hx : rl x a b) (hy : rl y c d) (h : 0 ≤ a ∧ 0 ≤ c ∧ b < ((2 ^ k : Nat) : Int) ∧ d < ((2 ^ k : Nat) : Int) ∧ hi = ((2 ^ k : Nat) : Int) - 1 ∧ k ≤ 63) : rl z 0 hi := by
  have h1 := nn64 hx h.1; have h2 := nn64 hy h.2.1
  have h3 := hx.2; have h4 := hy.2
  have h5 : z.toBitVec.toNat = x.toBitVec.toNat ||| y.toBitVec.toNat := by rw [e, Int64.toBitVec_or, BitVec.toNat_or]
  have h6 : x.toBitVec.toNat ||| y.toBitVec.toNat < 2 ^ k := Nat.or_lt_two_pow (by omega) (by omega)
  have h7 : 2 ^ k ≤ 2 ^ 63 := Nat.pow_le_pow_right (by decide) h.2.2.2.2.2
  have h8 := of64 h5 (by omega)
  exact rl_of (by omega)
theorem eq_shl {x y z : Int32} {a b c : Int} {k : Nat} (e : z = x <<< (y &&& 31)) (hk : ((y &&& 31).toBitVec.smod 32).toNat = k) (hx : rg x a b) (h : c = ((2 ^ k : Nat) : Int) ∧ 0 ≤ a ∧ b * c ≤ 2147483647) : z.toInt = x.toInt * c := by
  have h1 := nn32 hx h.2.1
  have h2 := hx.2
  have hc : 0 ≤ c := by rw [h.1]; exact Int.natCast_nonneg _
  have h3 : z.toBitVec.toNat = (x.toBitVec.toNat * 2 ^ k) % 2 ^ 32 := by
    rw [e, Int32.toBitVec_shiftLeft, BitVec.shiftLeft_eq', hk, BitVec.toNat_shiftLeft, Nat.shiftLeft_eq]
  have h5 : (x.toBitVec.toNat : Int) * c ≤ b * c := Int.mul_le_mul_of_nonneg_right (by omega) hc
  have h7 : ((x.toBitVec.toNat * 2 ^ k : Nat) : Int) = (x.toBitVec.toNat : Int) * c := by rw [h.1, Int.natCast_mul]
  have h6 : ((x.toBitVec.toNat * 2 ^ k : Nat) : Int) ≤ 2147483647 := by rw [h7]; omega
  rw [Nat.mod_eq_of_lt (by omega)] at h3
  rw [of32 h3 (by omega), h7, h1.1]
theorem rg_shl {x y z : Int32} {a b c lo hi : Int} {k : Nat} (e : z = x <<< (y &&& 31)) (hk : ((y &&& 31).toBitVec.smod 32).toNat = k) (hx : rg x a b) (h : c = ((2 ^ k : Nat) : Int) ∧ 0 ≤ a ∧ b * c ≤ 2147483647 ∧ lo = a * c ∧ hi = b * c) : rg z lo hi := by
  have h1 := eq_shl e hk hx ⟨h.1, h.2.1, h.2.2.1⟩
  have hc : 0 ≤ c := by rw [h.1]; exact Int.natCast_nonneg _
  have h2 := Int.mul_le_mul_of_nonneg_right hx.1 hc
  have h3 := Int.mul_le_mul_of_nonneg_right hx.2 hc
  exact rg_of (by omega)
theorem eq_shr {x y z : Int32} {c : Int} {k : Nat} (e : z = x >>> (y &&& 31)) (hk : ((y &&& 31).toBitVec.smod 32).toNat = k) (h : c = ((2 ^ k : Nat) : Int)) : z.toInt = x.toInt / c := by
  have h3 : z.toBitVec.toInt = x.toBitVec.toInt >>> k := by
    rw [e, Int32.toBitVec_shiftRight, BitVec.sshiftRight_eq', hk, BitVec.toInt_sshiftRight]
  rw [h]
  have h4 : z.toInt = x.toInt >>> k := h3
  rw [h4, Int.shiftRight_eq_div_pow]
theorem rg_shr {x y z : Int32} {a b lo hi : Int} {k : Nat} (e : z = x >>> (y &&& 31)) (hk : ((y &&& 31).toBitVec.smod 32).toNat = k) (hx : rg x a b) (h : lo * ((2 ^ k : Nat) : Int) ≤ a ∧ b < (hi + 1) * ((2 ^ k : Nat) : Int)) : rg z lo hi := by
  have h1 := eq_shr e hk rfl
  have hp : (0 : Int) < ((2 ^ k : Nat) : Int) := Int.natCast_pos.mpr (Nat.two_pow_pos k)
  refine rg_of ⟨?_, ?_⟩
  · rw [h1]; exact (Int.le_ediv_iff_mul_le hp).mpr (Int.le_trans h.1 hx.1)
  · rw [h1]; exact Int.le_of_lt_add_one ((Int.ediv_lt_iff_lt_mul hp).mpr (Int.lt_of_le_of_lt hx.2 h.2))
theorem rg_ushr {x y z : Int32} {hi : Int} {k : Nat} (e : z = (x.toUInt32 >>> (y.toUInt32 &&& Int32.toUInt32 31)).toInt32) (hk : (y.toUInt32 &&& Int32.toUInt32 31).toNat % 32 = k) (h : 1 ≤ k ∧ k ≤ 31 ∧ ((2 ^ (32 - k) : Nat) : Int) = hi + 1) : rg z 0 hi := by
  have h3 : z.toBitVec.toNat = x.toUInt32.toNat / 2 ^ k := by
    rw [e]; show (x.toUInt32 >>> (y.toUInt32 &&& Int32.toUInt32 31)).toNat = _
    rw [UInt32.toNat_shiftRight, hk, Nat.shiftRight_eq_div_pow]
  have h4 : x.toUInt32.toNat < 2 ^ 32 := x.toUInt32.toNat_lt
  have h5 : x.toUInt32.toNat / 2 ^ k < 2 ^ (32 - k) := by
    rw [Nat.div_lt_iff_lt_mul (Nat.two_pow_pos k), ← Nat.pow_add, show 32 - k + k = 32 by omega]; exact h4
  have h6 : 2 ^ (32 - k) ≤ 2 ^ 31 := Nat.pow_le_pow_right (by decide) (by omega)
  have h7 := of32 h3 (by omega)
  exact rg_of (by omega)
theorem eq_div {x y z : Int32} {a b c : Int} {k : Nat} (e : z = x / y) (hk : y.toInt = (k : Int)) (hx : rg x a b) (h : 0 ≤ a ∧ 0 < k ∧ c = (k : Int)) : z.toInt = x.toInt / c := by
  have h1 := hx.1
  have hy : y ≠ -1 := fun q => by
    rw [q] at hk
    have : (-1 : Int32).toInt = -1 := by decide
    omega
  rw [e, Int32.toInt_div_of_ne_right _ _ hy, hk, h.2.2]
  exact Int.tdiv_eq_ediv_of_nonneg (by omega)
theorem rg_div {x y z : Int32} {a b lo hi : Int} {k : Nat} (e : z = x / y) (hk : y.toInt = (k : Int)) (hx : rg x a b) (h : 0 ≤ a ∧ 0 < k ∧ lo = a / (k : Int) ∧ hi = b / (k : Int)) : rg z lo hi := by
  have h1 := eq_div (c := (k : Int)) e hk hx ⟨h.1, h.2.1, rfl⟩
  have hp : (0 : Int) < (k : Int) := by omega
  refine rg_of ⟨?_, ?_⟩
  · rw [h1, h.2.2.1]; exact Int.ediv_le_ediv hp hx.1
  · rw [h1, h.2.2.2]; exact Int.ediv_le_ediv hp hx.2
theorem eq_rem {x y z : Int32} {a b c : Int} {k : Nat} (e : z = x - x / y * y) (hk : y.toInt = (k : Int)) (hx : rg x a b) (h : 0 ≤ a ∧ 0 < k ∧ c = (k : Int)) : z.toInt = x.toInt % c := by
  have h1 := hx.1
  have hi := (rg_any x).2
  have hd := eq_div (c := c) (z := x / y) rfl hk hx h
  have hp : (0 : Int) < c := by omega
  have h0 : 0 ≤ x.toInt / c := Int.ediv_nonneg (by omega) (by omega)
  have h2 : x.toInt / c * c ≤ x.toInt := Int.ediv_mul_le _ (by omega)
  have h3 : 0 ≤ x.toInt / c * c := Int.mul_nonneg h0 (by omega)
  have hm := eq_mulS (z := x / y * y) rfl (by rw [hd, hk, ← h.2.2]; omega)
  rw [hd, hk, ← h.2.2] at hm
  have hs := eq_subS e (by rw [hm]; omega)
  rw [hs, hm]
  have := Int.emod_add_mul_ediv x.toInt c
  rw [Int.mul_comm] at this
  omega
theorem rg_rem {x y z : Int32} {a b lo hi : Int} {k : Nat} (e : z = x - x / y * y) (hk : y.toInt = (k : Int)) (hx : rg x a b) (h : 0 ≤ a ∧ 0 < k ∧ lo = 0 ∧ hi = (k : Int) - 1) : rg z lo hi := by
  have h1 := eq_rem (c := (k : Int)) e hk hx ⟨h.1, h.2.1, rfl⟩
  have h2 := Int.emod_nonneg x.toInt (show (k : Int) ≠ 0 by omega)
  have h3 := Int.emod_lt_of_pos x.toInt (show (0 : Int) < (k : Int) by omega)
  exact rg_of (by omega)
theorem eq_and {x y z : Int32} {c : Int} {k : Nat} (e : z = x &&& y) (hk : y.toBitVec.toNat = 2 ^ k - 1) (h : c = ((2 ^ k : Nat) : Int) ∧ k ≤ 30) : z.toInt = x.toInt % c := by
  have h2 : z.toBitVec.toNat = x.toBitVec.toNat % 2 ^ k := by rw [e, Int32.toBitVec_and, BitVec.toNat_and, hk, Nat.and_two_pow_sub_one_eq_mod]
  have hp : 0 < 2 ^ k := Nat.two_pow_pos k
  have h6 : 2 ^ k ≤ 2 ^ 30 := Nat.pow_le_pow_right (by decide) h.2
  have h7 : x.toBitVec.toNat % 2 ^ k < 2 ^ k := Nat.mod_lt _ hp
  have h4 := of32 h2 (by omega)
  have h3 : x.toBitVec.toInt = x.toInt := rfl
  rw [BitVec.toInt_eq_toNat_cond] at h3
  rw [h4, h.1]
  have hd : ((2 ^ 32 : Nat) : Int) = ((2 ^ k : Nat) : Int) * ((2 ^ (32 - k) : Nat) : Int) := by
    rw [← Int.natCast_mul, ← Nat.pow_add, show k + (32 - k) = 32 by omega]
  split at h3
  · rw [← h3, Int.natCast_emod]
  · rw [← h3, Int.natCast_emod, hd, Int.sub_mul_emod_self_left]
theorem em_l2i {x : Int64} {z : Int32} (e : z = x.toInt32) : z.toInt % 4294967296 = x.toInt % 4294967296 := by
  rw [e, Int64.toInt_toInt32]; exact Int.bmod_emod
/-! a row of INSTRUCTIONS of which each one that works has an op -/
def okI (x : Int64) : Prop := ((x.toInt % 8 = 7 ∨ x.toInt % 8 = 4) → x.toInt % 256 ≤ 207) ∧ (x.toInt / 256) % 16 ≤ 10 ∧ (x.toInt / 4096) % 16 ≤ 10
def OkP (g : Nat → Int64) (n : Int) : Prop := ∀ i : Int32, 0 ≤ i.toInt → i.toInt < n → okI (g i.toNatClampNeg)
theorem OkP.zero {g : Nat → Int64} {n : Int} (h : n ≤ 0) : OkP g n := fun i h0 h1 => by omega
theorem OkP.mono {g : Nat → Int64} {n k : Int} (h : OkP g n) (hk : k ≤ n) : OkP g k := fun i h0 h1 => h i h0 (Int.lt_of_lt_of_le h1 hk)
theorem OkP.step {g : Nat → Int64} {i : Int32} {n : Int} (h : OkP g i.toInt) (hn : n = i.toInt + 1) (hi : okI (g i.toNatClampNeg)) : OkP g n := fun j h0 h1 => by
  by_cases hj : j.toInt = i.toInt
  · rw [Int32.toInt_inj.mp hj]; exact hi
  · exact h j h0 (by omega)
theorem rg_shl1 {x y z : Int32} {a b lo hi : Int} {k : Nat} (e : z = x <<< (y &&& 31)) (hy : rg y a b) (h : k = 3 ∧ 0 ≤ a ∧ b ≤ 3 ∧ lo = 1 ∧ hi = 8) (hx : x = 1 := by rfl) : rg z lo hi := by
  have h1 := hy.1; have h2 := hy.2
  subst hx
  have c0 : y = 0 ∨ y = 1 ∨ y = 2 ∨ y = 3 := by
    by_cases q0 : y.toInt = 0
    · exact Or.inl (Int32.toInt_inj.mp (q0.trans (by decide)))
    by_cases q1 : y.toInt = 1
    · exact Or.inr (Or.inl (Int32.toInt_inj.mp (q1.trans (by decide))))
    by_cases q2 : y.toInt = 2
    · exact Or.inr (Or.inr (Or.inl (Int32.toInt_inj.mp (q2.trans (by decide)))))
    · exact Or.inr (Or.inr (Or.inr (Int32.toInt_inj.mp (Eq.trans (by omega) (show (3 : Int) = (3 : Int32).toInt by decide)))))
  rw [h.2.2.2.1, h.2.2.2.2]
  rcases c0 with rfl | rfl | rfl | rfl <;> subst e <;> exact ⟨by decide, by decide⟩
theorem rg_narZ (x : Int32) : rg (vp_nar .boolean x) 0 1 := rg_andr (x := x) (y := 1) rfl (rg_l (v := 1) (by decide)) ⟨by decide, rfl⟩
