theorem nneg_of {x : Int32} (h : 0 ≤ x.toInt) : ¬ x < 0 := fun h1 => by
  have := Int32.lt_iff_toInt_lt.mp h1
  have h0 : (0 : Int32).toInt = 0 := by decide
  omega
theorem ncn_of {x : Int32} {k : Nat} (h : x.toInt = (k : Int)) : x.toNatClampNeg = k := by
  show x.toInt.toNat = k
  omega
theorem ncn_up {x : Int32} {k : Nat} (h : x.toNatClampNeg = k) (h0 : 0 ≤ x.toInt) : ((k : Nat) : Int) = x.toInt := by
  have h1 : x.toInt.toNat = k := h
  omega
theorem nat4 {k : Nat} (h : ((k : Nat) : Int) ≤ 4000) : (0 : Int) ≤ ((k : Nat) : Int) ∧ ((k : Nat) : Int) ≤ 4000 := ⟨Int.natCast_nonneg _, h⟩
theorem eqL_shr {x z : Int64} {y : Int32} {c : Int} {k : Nat} (e : z = x >>> (y.toInt64 &&& 63)) (hk : ((y.toInt64 &&& 63).toBitVec.smod 64).toNat = k) (h : c = ((2 ^ k : Nat) : Int)) : z.toInt = x.toInt / c := by
  have h3 : z.toBitVec.toInt = x.toBitVec.toInt >>> k := by
    rw [e, Int64.toBitVec_shiftRight, BitVec.sshiftRight_eq', hk, BitVec.toInt_sshiftRight]
  rw [h]
  have h4 : z.toInt = x.toInt >>> k := h3
  rw [h4, Int.shiftRight_eq_div_pow]
theorem eqL_div {x y z : Int64} {a b c : Int} {k : Nat} (e : z = x / y) (hk : y.toInt = (k : Int)) (hx : rl x a b) (h : 0 ≤ a ∧ 0 < k ∧ c = (k : Int)) : z.toInt = x.toInt / c := by
  have h1 := hx.1
  have hy : y ≠ -1 := fun q => by
    rw [q] at hk
    have : (-1 : Int64).toInt = -1 := by decide
    omega
  rw [e, Int64.toInt_div_of_ne_right _ _ hy, hk, h.2.2]
  exact Int.tdiv_eq_ediv_of_nonneg (by omega)
theorem rgL_div {x y z : Int64} {a b lo hi : Int} {k : Nat} (e : z = x / y) (hk : y.toInt = (k : Int)) (hx : rl x a b) (h : 0 ≤ a ∧ 0 < k ∧ lo = a / (k : Int) ∧ hi = b / (k : Int)) : rl z lo hi := by
  have h1 := eqL_div (c := (k : Int)) e hk hx ⟨h.1, h.2.1, rfl⟩
  have hp : (0 : Int) < (k : Int) := by omega
  refine rl_of ⟨?_, ?_⟩
  · rw [h1, h.2.2.1]; exact Int.ediv_le_ediv hp hx.1
  · rw [h1, h.2.2.2]; exact Int.ediv_le_ediv hp hx.2
theorem eq_i2s {x z : Int32} (e : z = x.toInt16.toInt32) : z.toInt = (x.toInt + 32768) % 65536 - 32768 := by
  rw [e, Int16.toInt_toInt32]
  have h1 : x.toInt16.toInt = x.toInt.bmod (2 ^ 16) := Int32.toInt_toInt16 x
  rw [h1, Int.bmod_def]
  have h2 := Int.emod_nonneg x.toInt (show ((2 ^ 16 : Nat) : Int) ≠ 0 by decide)
  have h3 := Int.emod_lt_of_pos x.toInt (show (0 : Int) < ((2 ^ 16 : Nat) : Int) by decide)
  have h4 : ((2 ^ 16 : Nat) : Int) = 65536 := by decide
  rw [h4] at h2 h3 ⊢
  split <;> omega
/-! an INSTRUCTION of the form that is wanted at place i of L -/
def okF (x : Int64) (i L : Int) : Prop := (x.toInt / 256) % 16 ≤ 10 ∧ (x.toInt / 4096) % 16 ≤ 10 ∧ (((x.toInt % 256 % 8 = 5 ∨ x.toInt % 256 % 8 = 6) ∧ (x.toInt % 256 / 16 = 0 → x.toInt % 256 = 5) ∧ (x.toInt % 256 / 16 = 9 → x.toInt % 256 = 149) ∧ x.toInt % 256 / 16 ≠ 8 ∧ x.toInt % 256 / 16 < 14) ∧ x.toInt % 256 ≠ 149 → 0 < 1 + ((x.toInt / 65536 + 32768) % 65536 - 32768) ∧ i + 1 + ((x.toInt / 65536 + 32768) % 65536 - 32768) < L) ∧ (i = L - 1 → x.toInt % 256 = 149)
def OkF (g : Nat → Int64) (n L : Int) : Prop := ∀ i : Int32, 0 ≤ i.toInt → i.toInt < n → okF (g i.toNatClampNeg) i.toInt L
theorem OkF.zero {g : Nat → Int64} {n L : Int} (h : n ≤ 0) : OkF g n L := fun i h0 h1 => by omega
theorem OkF.mono {g : Nat → Int64} {n k L : Int} (h : OkF g n L) (hk : k ≤ n) : OkF g k L := fun i h0 h1 => h i h0 (Int.lt_of_lt_of_le h1 hk)
theorem OkF.step {g : Nat → Int64} {i : Int32} {n L : Int} (h : OkF g i.toInt L) (hn : n = i.toInt + 1) (hi : okF (g i.toNatClampNeg) i.toInt L) : OkF g n L := fun j h0 h1 => by
  by_cases hj : j.toInt = i.toInt
  · rw [Int32.toInt_inj.mp hj]; exact hi
  · exact h j h0 (by omega)
