/-! what sort an INSTRUCTION's code is of; an INSTRUCTION that is told, at its place -/
def srt (c : Int) : Int :=
  if c % 8 = 7 ∨ c % 8 = 4 then (if c / 16 ≤ 12 ∧ ¬ (c / 16 = 8 ∧ (c / 8) % 2 = 1) then 0 else -1)
  else if c % 8 = 5 ∨ c % 8 = 6 then (if (c / 16 ≠ 0 ∨ c = 5) ∧ (c / 16 ≠ 9 ∨ c = 149) ∧ c / 16 ≠ 8 ∧ c / 16 < 14 then 1 else -1)
  else if c = 97 ∨ c = 105 ∨ c = 113 ∨ c = 121 then 2
  else if c = 99 ∨ c = 107 ∨ c = 115 ∨ c = 123 then 3
  else if c = 98 ∨ c = 106 ∨ c = 114 ∨ c = 122 then 4
  else if c = 32 ∨ c = 40 ∨ c = 48 then 5
  else if c = 64 ∨ c = 72 ∨ c = 80 then 6
  else -1
def okG (x : Int64) (i L : Int) : Prop := (x.toInt / 256) % 16 ≤ 10 ∧ (x.toInt / 4096) % 16 ≤ 10 ∧ 0 ≤ srt (x.toInt % 256) ∧ (srt (x.toInt % 256) = 1 ∧ (x.toInt % 256) ≠ 149 → 0 < 1 + ((x.toInt / 65536 + 32768) % 65536 - 32768) ∧ i + 1 + ((x.toInt / 65536 + 32768) % 65536 - 32768) < L) ∧ (i = L - 1 → (x.toInt % 256) = 149)
def OkG (g : Nat → Int64) (n L : Int) : Prop := ∀ i : Int32, 0 ≤ i.toInt → i.toInt < n → okG (g i.toNatClampNeg) i.toInt L
theorem OkG.zero {g : Nat → Int64} {n L : Int} (h : n ≤ 0) : OkG g n L := fun i h0 h1 => by omega
theorem OkG.mono {g : Nat → Int64} {n k L : Int} (h : OkG g n L) (hk : k ≤ n) : OkG g k L := fun i h0 h1 => h i h0 (Int.lt_of_lt_of_le h1 hk)
theorem OkG.step {g : Nat → Int64} {i : Int32} {n L : Int} (h : OkG g i.toInt L) (hn : n = i.toInt + 1) (hi : okG (g i.toNatClampNeg) i.toInt L) : OkG g n L := fun j h0 h1 => by
  by_cases hj : j.toInt = i.toInt
  · rw [Int32.toInt_inj.mp hj]; exact hi
  · exact h j h0 (by omega)
theorem eq_andbit {x y z : Int32} {a b c : Int} {k : Nat} (e : z = x &&& y) (hk : y.toBitVec.toNat = 2 ^ k) (hx : rg x a b) (h : 0 ≤ a ∧ c = ((2 ^ k : Nat) : Int) ∧ k ≤ 30) : z.toInt = c * ((x.toInt / c) % 2) := by
  have h1 := hx.1
  have hx1 : x.toInt = ((x.toBitVec.toNat : Nat) : Int) := by
    have q1 : x.toBitVec.toInt = x.toInt := rfl
    rw [BitVec.toInt_eq_toNat_cond] at q1
    split at q1 <;> omega
  have hz : z.toBitVec.toNat = x.toBitVec.toNat &&& 2 ^ k := by
    rw [e, Int32.toBitVec_and, BitVec.toNat_and, hk]
  have hle : x.toBitVec.toNat &&& 2 ^ k ≤ x.toBitVec.toNat := Nat.and_le_left
  have h6 := x.toInt_lt
  have hz1 : z.toInt = ((z.toBitVec.toNat : Nat) : Int) := by
    have q1 : z.toBitVec.toInt = z.toInt := rfl
    rw [BitVec.toInt_eq_toNat_cond] at q1
    split at q1 <;> omega
  rw [hz1, hz, Nat.and_two_pow, h.2.1, hx1, Nat.testBit_eq_decide_div_mod_eq]
  by_cases hb : x.toBitVec.toNat / 2 ^ k % 2 = 1
  · rw [decide_eq_true hb]
    have : (((x.toBitVec.toNat : Nat) : Int) / ((2 ^ k : Nat) : Int)) % 2 = 1 := by
      rw [← Int.natCast_ediv]; omega
    rw [this]
    simp
  · rw [decide_eq_false hb]
    have : (((x.toBitVec.toNat : Nat) : Int) / ((2 ^ k : Nat) : Int)) % 2 = 0 := by
      rw [← Int.natCast_ediv]; omega
    rw [this]
    simp
