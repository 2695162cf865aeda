/-! what sort an INSTRUCTION's code is of; an INSTRUCTION that is told, at its place -/
def srt (c : Int) : Int :=
  if c % 8 = 7 ∨ c % 8 = 4 then (if c / 16 ≤ 12 ∧ ¬ (c / 16 = 8 ∧ (c / 8) % 2 = 1) then 0 else -1)
  else if c % 8 = 5 ∨ c % 8 = 6 then (if (c / 16 ≠ 0 ∨ c = 5) ∧ (c / 16 ≠ 9 ∨ c = 149) ∧ c / 16 ≠ 8 ∧ c / 16 < 14 then 1 else -1)
  else if c = 97 ∨ c = 105 ∨ c = 113 ∨ c = 121 then 2
  else if c = 99 ∨ c = 107 ∨ c = 115 ∨ c = 123 then 3
  else if c = 98 ∨ c = 106 ∨ c = 114 ∨ c = 122 then 4
  else if c = 32 ∨ c = 40 ∨ c = 48 then 5
  else if c = 64 ∨ c = 72 ∨ c = 80 then 6
  else -1
def okG (x : Int64) (i L : Int) : Prop := (x.toInt / 256) % 16 ≤ 10 ∧ (x.toInt / 4096) % 16 ≤ 10 ∧ 0 ≤ srt (x.toInt % 256) ∧ (srt (x.toInt % 256) = 1 ∧ (x.toInt % 256) ≠ 149 → 0 < 1 + ((x.toInt / 65536 + 32768) % 65536 - 32768) ∧ i + 1 + ((x.toInt / 65536 + 32768) % 65536 - 32768) < L) ∧ (i = L - 1 → (x.toInt % 256) = 149)
def OkG (g : Nat → Int64) (n L : Int) : Prop := ∀ i : Int32, 0 ≤ i.toInt → i.toInt < n → okG (g i.toNatClampNeg) i.toInt L
theorem OkG.zero {g : Nat → Int64} {n L : Int} (h : n ≤ 0) : OkG g n L := fun i h0 h1 => by omega
theorem OkG.mono {g : Nat → Int64} {n k L : Int} (h : OkG g n L) (hk : k ≤ n) : OkG g k L := fun i h0 h1 => h i h0 (Int.lt_of_lt_of_le h1 hk)
theorem OkG.step {g : Nat → Int64} {i : Int32} {n L : Int} (h : OkG g i.toInt L) (hn : n = i.toInt + 1) (hi : okG (g i.toNatClampNeg) i.toInt L) : OkG g n L := fun j h0 h1 => by
  by_cases hj : j.toInt = i.toInt
  · rw [Int32.toInt_inj.mp hj]; exact hi
  · exact h j h0 (by omega)
theorem eq_andbit {x y z : Int32} {a b c : Int} {k : Nat} (e : z = x &&& y) (hk : y.toBitVec.toNat = 2 ^ k) (hx : rg x a b) (h : 0 ≤ a ∧ c = ((2 ^ k : Nat) : Int) ∧ k ≤ 30) : z.toInt = c * ((x.toInt / c) % 2) := by
  have h1 := hx.1
  have hx1 : x.toInt = ((x.toBitVec.toNat : Nat) : Int) := by
    have q1 : x.toBitVec.toInt = x.toInt := rfl
    rw [BitVec.toInt_eq_toNat_cond] at q1
    split at q1 <;> omega
  have hz : z.toBitVec.toNat = x.toBitVec.toNat &&& 2 ^ k := by
    rw [e, Int32.toBitVec_and, BitVec.toNat_and, hk]
  have hle : x.toBitVec.toNat &&& 2 ^ k ≤ x.toBitVec.toNat := Nat.and_le_left
  have h6 := x.toInt_lt
  have hz1 : z.toInt = ((z.toBitVec.toNat : Nat) : Int) := by
    have q1 : z.toBitVec.toInt = z.toInt := rfl
    rw [BitVec.toInt_eq_toNat_cond] at q1
    split at q1 <;> omega
  have hb : x.toBitVec.toNat &&& 2 ^ k = 2 ^ k * (x.toBitVec.toNat / 2 ^ k % 2) := by
    have q1 : (x.toBitVec.toNat &&& 2 ^ k) / 2 ^ k = x.toBitVec.toNat / 2 ^ k % 2 := by
      rw [Nat.and_div_two_pow, Nat.div_self (Nat.two_pow_pos k), Nat.and_one_is_mod]
    have q2 : (x.toBitVec.toNat &&& 2 ^ k) % 2 ^ k = 0 := by
      rw [Nat.and_mod_two_pow, Nat.mod_self, Nat.and_zero]
    have q3 := Nat.div_add_mod (x.toBitVec.toNat &&& 2 ^ k) (2 ^ k)
    rw [q1, q2] at q3
    omega
  rw [hz1, hz, hb, h.2.1, hx1, Int.natCast_mul, Int.natCast_emod, Int.natCast_ediv]
  rfl
theorem fit_bool {x : Int32} (h : rg x 0 1) : fits .boolean (.int x) = true := by
  have h1 := h.1; have h2 := h.2
  have : x = 0 ∨ x = 1 := by
    by_cases h0 : x.toInt = 0
    · exact Or.inl (Int32.toInt_inj.mp (h0.trans (by decide)))
    · exact Or.inr (Int32.toInt_inj.mp (Eq.trans (by omega) (show (1 : Int) = (1 : Int32).toInt by decide)))
  rcases this with rfl | rfl <;> decide
def C4 (g : Nat → Int64) : Nat → Nat
  | 0 => 0
  | k + 1 => C4 g k + (if (g k).toInt % 256 = 32 ∨ (g k).toInt % 256 = 64 then 1 else 0)
theorem C4_le (g : Nat → Int64) (n : Nat) : C4 g n ≤ n := by
  induction n with
  | zero => exact Nat.le_refl _
  | succ k ih => unfold C4; split <;> omega
theorem C4_mono (g : Nat → Int64) {i n : Nat} (h : i < n) : C4 g i + (if (g i).toInt % 256 = 32 ∨ (g i).toInt % 256 = 64 then 1 else 0) ≤ C4 g n := by
  induction n with
  | zero => omega
  | succ k ih =>
    by_cases hk : i = k
    · subst hk; exact Nat.le_refl _
    · have := ih (by omega)
      show _ ≤ C4 g k + _
      omega
theorem C4_gap (g : Nat → Int64) {i n : Nat} (h : i ≤ n) : C4 g n ≤ C4 g i + (n - i) := by
  induction n with
  | zero => have : i = 0 := by omega
            subst this; exact Nat.le_add_right _ _
  | succ k ih =>
    by_cases hk : i = k + 1
    · subst hk; exact Nat.le_add_right _ _
    · have := ih (by omega)
      show C4 g k + _ ≤ _
      split <;> omega
theorem tn_nat {i : Int32} (h : 0 ≤ i.toInt) : ((i.toNatClampNeg : Nat) : Int) = i.toInt := by
  show ((i.toInt.toNat : Nat) : Int) = _
  omega
theorem C4.step {g : Nat → Int64} {i x : Int32} (h : 0 ≤ i.toInt) (e : x.toInt = i.toInt + 1) : (((C4 g x.toNatClampNeg : Nat) : Int) = ((C4 g i.toNatClampNeg : Nat) : Int) ∧ ¬ ((g i.toNatClampNeg).toInt % 256 = 32 ∨ (g i.toNatClampNeg).toInt % 256 = 64)) ∨ (((C4 g x.toNatClampNeg : Nat) : Int) = ((C4 g i.toNatClampNeg : Nat) : Int) + 1 ∧ ((g i.toNatClampNeg).toInt % 256 = 32 ∨ (g i.toNatClampNeg).toInt % 256 = 64)) := by
  have h1 := tn_nat h
  have h2 := tn_nat (i := x) (by omega)
  have h3 : x.toNatClampNeg = i.toNatClampNeg + 1 := by omega
  rw [h3]
  by_cases hc : (g i.toNatClampNeg).toInt % 256 = 32 ∨ (g i.toNatClampNeg).toInt % 256 = 64
  · refine Or.inr ⟨?_, hc⟩
    show (((C4 g i.toNatClampNeg + _ : Nat)) : Int) = _
    rw [if_pos hc]; omega
  · refine Or.inl ⟨?_, hc⟩
    show (((C4 g i.toNatClampNeg + _ : Nat)) : Int) = _
    rw [if_neg hc]; omega
/-- what a program may become is bounded: 14 words an INSTRUCTION, and 6 more for each that READs four bytes -/
def PB (g : Nat → Int64) (n : Nat) : Prop := 14 * n + 6 * C4 g n ≤ 59994
theorem PB.small {g : Nat → Int64} {n : Nat} (h : n ≤ 250) : PB g n := by
  have := C4_le g n
  show 14 * n + 6 * C4 g n ≤ 59994
  omega
theorem PB.at {g : Nat → Int64} {n : Nat} {i : Int32} (h : PB g n) (h0 : 0 ≤ i.toInt) (h1 : i.toInt < ((n : Nat) : Int)) : 14 * ((n : Nat) : Int) + 6 * ((C4 g n : Nat) : Int) ≤ 59994 ∧ 14 * i.toInt + 6 * ((C4 g i.toNatClampNeg : Nat) : Int) + 14 ≤ 14 * ((n : Nat) : Int) + 6 * ((C4 g n : Nat) : Int) ∧ ((g i.toNatClampNeg).toInt % 256 = 32 ∨ (g i.toNatClampNeg).toInt % 256 = 64 → 14 * i.toInt + 6 * ((C4 g i.toNatClampNeg : Nat) : Int) + 20 ≤ 14 * ((n : Nat) : Int) + 6 * ((C4 g n : Nat) : Int)) := by
  have h2 := tn_nat h0
  have h3 : 14 * n + 6 * C4 g n ≤ 59994 := h
  have h4 := C4_mono g (i := i.toNatClampNeg) (n := n) (by omega)
  refine ⟨by omega, ?_, fun hc => ?_⟩
  · split at h4 <;> omega
  · rw [if_pos hc] at h4; omega
/-- the word at which an INSTRUCTION begins: not below its own place -/
def WOk (f : Nat → Int32) (n : Int) : Prop := ∀ i : Int32, 0 ≤ i.toInt → i.toInt < n → i.toInt ≤ (f i.toNatClampNeg).toInt ∧ (f i.toNatClampNeg).toInt ≤ 60000
theorem WOk.zero {f : Nat → Int32} {n : Int} (h : n ≤ 0) : WOk f n := fun i h0 h1 => by omega
theorem WOk.mono {f : Nat → Int32} {n k : Int} (h : WOk f n) (hk : k ≤ n) : WOk f k := fun i h0 h1 => h i h0 (Int.lt_of_lt_of_le h1 hk)
theorem WOk.step {f g : Nat → Int32} {i v : Int32} {n : Int} (h : WOk f i.toInt) (e : g = upd f i.toNatClampNeg v) (hr : upd = upd) (hn : n = i.toInt + 1) (hv : i.toInt ≤ v.toInt ∧ v.toInt ≤ 60000) : WOk g n := fun j h0 h1 => by
  by_cases hj : j.toInt = i.toInt
  · rw [Int32.toInt_inj.mp hj, e]
    unfold upd
    rw [if_pos rfl]; exact hv
  · have h2 := h j h0 (by omega)
    have h3 : j.toNatClampNeg ≠ i.toNatClampNeg := fun q => by
      have q1 := tn_nat h0
      have q2 := tn_nat (i := i) (by omega)
      omega
    rw [e]
    unfold upd
    rw [if_neg h3]; exact h2
theorem ncn_b {k : Nat} {v : Int} (h : ((k : Nat) : Int) = v) (hv : 0 ≤ v ∧ v ≤ 250) : (0 : Int) ≤ ((k : Nat) : Int) ∧ ((k : Nat) : Int) ≤ 250 := by omega
