/-! what an INSTRUCTION becomes, counted -/
def TWop (c k : Int) (d : Nat) : Prop := ((c % 8 = 7 ∨ c % 8 = 5) ∧ (c / 8) % 2 = 1 ∧ c / 16 = 11 → ((d : Nat) : Int) = 1) ∧ ((c % 8 = 7 ∨ c % 8 = 5) ∧ (c / 8) % 2 = 1 ∧ c / 16 = 8 → ((d : Nat) : Int) = 1) ∧ ((c % 8 = 7 ∨ c % 8 = 5) ∧ (c / 8) % 2 = 1 ∧ c / 16 = 3 → ((d : Nat) : Int) = 4) ∧ ((c % 8 = 7 ∨ c % 8 = 5) ∧ (c / 8) % 2 = 1 ∧ c / 16 ≠ 11 ∧ c / 16 ≠ 8 ∧ c / 16 ≠ 3 → ((d : Nat) : Int) = 1) ∧ ((c % 8 = 7 ∨ c % 8 = 5) ∧ (c / 8) % 2 = 0 ∧ (-2048 ≤ k ∧ k ≤ 2047) ∧ c / 16 = 11 → ((d : Nat) : Int) = 1) ∧ ((c % 8 = 7 ∨ c % 8 = 5) ∧ (c / 8) % 2 = 0 ∧ (-2048 ≤ k ∧ k ≤ 2047) ∧ c / 16 = 8 → ((d : Nat) : Int) = 1) ∧ ((c % 8 = 7 ∨ c % 8 = 5) ∧ (c / 8) % 2 = 0 ∧ (-2048 ≤ k ∧ k ≤ 2047) ∧ c / 16 = 3 → ((d : Nat) : Int) = 5) ∧ ((c % 8 = 7 ∨ c % 8 = 5) ∧ (c / 8) % 2 = 0 ∧ (-2048 ≤ k ∧ k ≤ 2047) ∧ c / 16 ≠ 11 ∧ c / 16 ≠ 8 ∧ c / 16 ≠ 3 → ((d : Nat) : Int) = 2) ∧ ((c % 8 = 7 ∨ c % 8 = 5) ∧ (c / 8) % 2 = 0 ∧ (k < -2048 ∨ 2047 < k) ∧ c / 16 = 11 → ((d : Nat) : Int) = 2) ∧ ((c % 8 = 7 ∨ c % 8 = 5) ∧ (c / 8) % 2 = 0 ∧ (k < -2048 ∨ 2047 < k) ∧ c / 16 = 8 → ((d : Nat) : Int) = 1) ∧ ((c % 8 = 7 ∨ c % 8 = 5) ∧ (c / 8) % 2 = 0 ∧ (k < -2048 ∨ 2047 < k) ∧ c / 16 = 3 → ((d : Nat) : Int) = 6) ∧ ((c % 8 = 7 ∨ c % 8 = 5) ∧ (c / 8) % 2 = 0 ∧ (k < -2048 ∨ 2047 < k) ∧ c / 16 ≠ 11 ∧ c / 16 ≠ 8 ∧ c / 16 ≠ 3 → ((d : Nat) : Int) = 3) ∧ (¬ (c % 8 = 7 ∨ c % 8 = 5) ∧ (c / 8) % 2 = 1 ∧ c / 16 = 11 → ((d : Nat) : Int) = 3) ∧ (¬ (c % 8 = 7 ∨ c % 8 = 5) ∧ (c / 8) % 2 = 1 ∧ c / 16 = 8 → ((d : Nat) : Int) = 3) ∧ (¬ (c % 8 = 7 ∨ c % 8 = 5) ∧ (c / 8) % 2 = 1 ∧ c / 16 = 3 → ((d : Nat) : Int) = 7) ∧ (¬ (c % 8 = 7 ∨ c % 8 = 5) ∧ (c / 8) % 2 = 1 ∧ c / 16 ≠ 11 ∧ c / 16 ≠ 8 ∧ c / 16 ≠ 3 → ((d : Nat) : Int) = 3) ∧ (¬ (c % 8 = 7 ∨ c % 8 = 5) ∧ (c / 8) % 2 = 0 ∧ (-2048 ≤ k ∧ k ≤ 2047) ∧ c / 16 = 11 → ((d : Nat) : Int) = 3) ∧ (¬ (c % 8 = 7 ∨ c % 8 = 5) ∧ (c / 8) % 2 = 0 ∧ (-2048 ≤ k ∧ k ≤ 2047) ∧ c / 16 = 8 → ((d : Nat) : Int) = 3) ∧ (¬ (c % 8 = 7 ∨ c % 8 = 5) ∧ (c / 8) % 2 = 0 ∧ (-2048 ≤ k ∧ k ≤ 2047) ∧ c / 16 = 3 → ((d : Nat) : Int) = 8) ∧ (¬ (c % 8 = 7 ∨ c % 8 = 5) ∧ (c / 8) % 2 = 0 ∧ (-2048 ≤ k ∧ k ≤ 2047) ∧ c / 16 ≠ 11 ∧ c / 16 ≠ 8 ∧ c / 16 ≠ 3 → ((d : Nat) : Int) = 4) ∧ (¬ (c % 8 = 7 ∨ c % 8 = 5) ∧ (c / 8) % 2 = 0 ∧ (k < -2048 ∨ 2047 < k) ∧ c / 16 = 11 → ((d : Nat) : Int) = 4) ∧ (¬ (c % 8 = 7 ∨ c % 8 = 5) ∧ (c / 8) % 2 = 0 ∧ (k < -2048 ∨ 2047 < k) ∧ c / 16 = 8 → ((d : Nat) : Int) = 3) ∧ (¬ (c % 8 = 7 ∨ c % 8 = 5) ∧ (c / 8) % 2 = 0 ∧ (k < -2048 ∨ 2047 < k) ∧ c / 16 = 3 → ((d : Nat) : Int) = 9) ∧ (¬ (c % 8 = 7 ∨ c % 8 = 5) ∧ (c / 8) % 2 = 0 ∧ (k < -2048 ∨ 2047 < k) ∧ c / 16 ≠ 11 ∧ c / 16 ≠ 8 ∧ c / 16 ≠ 3 → ((d : Nat) : Int) = 5)
def TWjump (c k : Int) (d : Nat) : Prop := (c = 5 → ((d : Nat) : Int) = 1) ∧ (c ≠ 5 ∧ (c % 8 = 7 ∨ c % 8 = 5) ∧ (c / 8) % 2 = 1 ∧ c / 16 = 4 → ((d : Nat) : Int) = 3) ∧ (c ≠ 5 ∧ (c % 8 = 7 ∨ c % 8 = 5) ∧ (c / 8) % 2 = 1 ∧ c / 16 ≠ 4 → ((d : Nat) : Int) = 2) ∧ (c ≠ 5 ∧ (c % 8 = 7 ∨ c % 8 = 5) ∧ (c / 8) % 2 = 0 ∧ (-2048 ≤ k ∧ k ≤ 2047) ∧ c / 16 = 4 → ((d : Nat) : Int) = 4) ∧ (c ≠ 5 ∧ (c % 8 = 7 ∨ c % 8 = 5) ∧ (c / 8) % 2 = 0 ∧ (-2048 ≤ k ∧ k ≤ 2047) ∧ c / 16 ≠ 4 → ((d : Nat) : Int) = 3) ∧ (c ≠ 5 ∧ (c % 8 = 7 ∨ c % 8 = 5) ∧ (c / 8) % 2 = 0 ∧ (k < -2048 ∨ 2047 < k) ∧ c / 16 = 4 → ((d : Nat) : Int) = 5) ∧ (c ≠ 5 ∧ (c % 8 = 7 ∨ c % 8 = 5) ∧ (c / 8) % 2 = 0 ∧ (k < -2048 ∨ 2047 < k) ∧ c / 16 ≠ 4 → ((d : Nat) : Int) = 4) ∧ (c ≠ 5 ∧ ¬ (c % 8 = 7 ∨ c % 8 = 5) ∧ (c / 8) % 2 = 1 ∧ c / 16 = 4 → ((d : Nat) : Int) = 5) ∧ (c ≠ 5 ∧ ¬ (c % 8 = 7 ∨ c % 8 = 5) ∧ (c / 8) % 2 = 1 ∧ c / 16 ≠ 4 → ((d : Nat) : Int) = 4) ∧ (c ≠ 5 ∧ ¬ (c % 8 = 7 ∨ c % 8 = 5) ∧ (c / 8) % 2 = 0 ∧ (-2048 ≤ k ∧ k ≤ 2047) ∧ c / 16 = 4 → ((d : Nat) : Int) = 6) ∧ (c ≠ 5 ∧ ¬ (c % 8 = 7 ∨ c % 8 = 5) ∧ (c / 8) % 2 = 0 ∧ (-2048 ≤ k ∧ k ≤ 2047) ∧ c / 16 ≠ 4 → ((d : Nat) : Int) = 5) ∧ (c ≠ 5 ∧ ¬ (c % 8 = 7 ∨ c % 8 = 5) ∧ (c / 8) % 2 = 0 ∧ (k < -2048 ∨ 2047 < k) ∧ c / 16 = 4 → ((d : Nat) : Int) = 7) ∧ (c ≠ 5 ∧ ¬ (c % 8 = 7 ∨ c % 8 = 5) ∧ (c / 8) % 2 = 0 ∧ (k < -2048 ∨ 2047 < k) ∧ c / 16 ≠ 4 → ((d : Nat) : Int) = 6)
def TWread (c k : Int) (d : Nat) : Prop := ((-2048 ≤ k ∧ k ≤ 2047) ∧ 64 ≤ c ∧ (c / 8) % 4 = 0 → ((d : Nat) : Int) = 19) ∧ ((-2048 ≤ k ∧ k ≤ 2047) ∧ 64 ≤ c ∧ (c / 8) % 4 = 1 → ((d : Nat) : Int) = 13) ∧ ((-2048 ≤ k ∧ k ≤ 2047) ∧ 64 ≤ c ∧ (c / 8) % 4 = 2 → ((d : Nat) : Int) = 10) ∧ ((-2048 ≤ k ∧ k ≤ 2047) ∧ 64 ≤ c ∧ (c / 8) % 4 = 3 → ((d : Nat) : Int) = 31) ∧ ((-2048 ≤ k ∧ k ≤ 2047) ∧ c < 64 ∧ (c / 8) % 4 = 0 → ((d : Nat) : Int) = 18) ∧ ((-2048 ≤ k ∧ k ≤ 2047) ∧ c < 64 ∧ (c / 8) % 4 = 1 → ((d : Nat) : Int) = 12) ∧ ((-2048 ≤ k ∧ k ≤ 2047) ∧ c < 64 ∧ (c / 8) % 4 = 2 → ((d : Nat) : Int) = 9) ∧ ((-2048 ≤ k ∧ k ≤ 2047) ∧ c < 64 ∧ (c / 8) % 4 = 3 → ((d : Nat) : Int) = 30) ∧ ((k < -2048 ∨ 2047 < k) ∧ 64 ≤ c ∧ (c / 8) % 4 = 0 → ((d : Nat) : Int) = 20) ∧ ((k < -2048 ∨ 2047 < k) ∧ 64 ≤ c ∧ (c / 8) % 4 = 1 → ((d : Nat) : Int) = 14) ∧ ((k < -2048 ∨ 2047 < k) ∧ 64 ≤ c ∧ (c / 8) % 4 = 2 → ((d : Nat) : Int) = 11) ∧ ((k < -2048 ∨ 2047 < k) ∧ 64 ≤ c ∧ (c / 8) % 4 = 3 → ((d : Nat) : Int) = 32) ∧ ((k < -2048 ∨ 2047 < k) ∧ c < 64 ∧ (c / 8) % 4 = 0 → ((d : Nat) : Int) = 19) ∧ ((k < -2048 ∨ 2047 < k) ∧ c < 64 ∧ (c / 8) % 4 = 1 → ((d : Nat) : Int) = 13) ∧ ((k < -2048 ∨ 2047 < k) ∧ c < 64 ∧ (c / 8) % 4 = 2 → ((d : Nat) : Int) = 10) ∧ ((k < -2048 ∨ 2047 < k) ∧ c < 64 ∧ (c / 8) % 4 = 3 → ((d : Nat) : Int) = 31)
def TWmem (c k o : Int) (d : Nat) : Prop := ((-2048 ≤ o ∧ o ≤ 2047) ∧ ((c = 97 ∨ c = 105 ∨ c = 113 ∨ c = 121) ∨ c % 2 = 1) → ((d : Nat) : Int) = 3) ∧ ((-2048 ≤ o ∧ o ≤ 2047) ∧ (-2048 ≤ k ∧ k ≤ 2047) ∧ ¬ (c = 97 ∨ c = 105 ∨ c = 113 ∨ c = 121) ∧ c % 2 = 0 → ((d : Nat) : Int) = 4) ∧ ((-2048 ≤ o ∧ o ≤ 2047) ∧ (k < -2048 ∨ 2047 < k) ∧ ¬ (c = 97 ∨ c = 105 ∨ c = 113 ∨ c = 121) ∧ c % 2 = 0 → ((d : Nat) : Int) = 5) ∧ ((o < -2048 ∨ 2047 < o) ∧ ((c = 97 ∨ c = 105 ∨ c = 113 ∨ c = 121) ∨ c % 2 = 1) → ((d : Nat) : Int) = 4) ∧ ((o < -2048 ∨ 2047 < o) ∧ (-2048 ≤ k ∧ k ≤ 2047) ∧ ¬ (c = 97 ∨ c = 105 ∨ c = 113 ∨ c = 121) ∧ c % 2 = 0 → ((d : Nat) : Int) = 5) ∧ ((o < -2048 ∨ 2047 < o) ∧ (k < -2048 ∨ 2047 < k) ∧ ¬ (c = 97 ∨ c = 105 ∨ c = 113 ∨ c = 121) ∧ c % 2 = 0 → ((d : Nat) : Int) = 6)
def TWo (c k o : Int) (d : Nat) : Prop := ((c % 8 = 7 ∨ c % 8 = 4) → TWop c k d) ∧ (¬ (c % 8 = 7 ∨ c % 8 = 4) ∧ c = 149 → ((d : Nat) : Int) = 1) ∧ (¬ (c % 8 = 7 ∨ c % 8 = 4) ∧ c ≠ 149 ∧ (c % 8 = 5 ∨ c % 8 = 6) → TWjump c k d) ∧ (¬ (c % 8 = 7 ∨ c % 8 = 4) ∧ c ≠ 149 ∧ ¬ (c % 8 = 5 ∨ c % 8 = 6) ∧ (c = 32 ∨ c = 40 ∨ c = 48 ∨ c = 64 ∨ c = 72 ∨ c = 80) → TWread c k d) ∧ (¬ (c % 8 = 7 ∨ c % 8 = 4) ∧ c ≠ 149 ∧ ¬ (c % 8 = 5 ∨ c % 8 = 6) ∧ ¬ (c = 32 ∨ c = 40 ∨ c = 48 ∨ c = 64 ∨ c = 72 ∨ c = 80) → TWmem c k o d)
set_option maxHeartbeats 2000000 in
theorem c_X7_isWide_w (l : Launch) (D : va_G) (ct : Nat → ClassId) (v0 : Int32) (h_v0 : rg v0 0 255) : KI (S := Unit) l yX7_isWide cX7_isWide 1 (some .boolean) 1 20 D ct [.int v0] [] 0 0 (fun (r : Int32) (_ : Unit) => rg r 0 1 ∧ (r.toInt = 1 → v0.toInt % 8 = 7 ∨ v0.toInt % 8 = 5) ∧ (r.toInt = 0 → ¬ (v0.toInt % 8 = 7 ∨ v0.toInt % 8 = 5))) (fun (_ : Unit) => []) := by
  refine KIq_of (by decide) (Nat.le_of_ble_eq_true rfl) (fun p e s m below meth c A Q C0 hA H locs hS hP hD hQ ls hl => ?_)
  obtain ⟨hx, hb, hr, hown, hin, hml, hlocks, hn, hK, hZ, hSK⟩ := C0
  have hl : lv_has ls 1 [(0, .int v0)] := hl
  refine lv_iload_n hx hb dX7_isWide_0 rfl (lv_at hl 0 rfl) ?_
  refine lv_bipush (v := 7) hx hb dX7_isWide_1 (by decide) ?_
  refine lv_iand hx hb dX7_isWide_3 ?_
  refine lv_topi (fun z3_1 ez3_1 => ?_)
  have r3_2 : rg z3_1 0 7 := rg_andr ez3_1 (show rg (7 : Int32) 7 7 from rg_l (by decide)) (by decide)
  refine lv_bipush (v := 7) hx hb dX7_isWide_4 (by decide) ?_
  refine lv_icmp_eq (tgt := 17) hx hb dX7_isWide_6 (by decide) (fun c6_1 => ?_) (fun c6_1 => ?_)
  · have t6_2 := (i_eq c6_1)
    have r6_3 : rg z3_1 7 7 := rg_eqA t6_2 r3_2 (show rg (7 : Int32) 7 7 from rg_l (by decide)) (by decide)
    refine lv_iconst (v := 1) hx hb dX7_isWide_17 (by decide) ?_
    refine lv_goto (tgt := 22) hx hb dX7_isWide_18 (by decide) ?_
    exact endq_i hQ hx hb hr hlocks dX7_isWide_22 (by decide) () ⟨(rg_w (show rg (1 : Int32) 1 1 from rg_l (by decide)) (by decide)), (show (1 : Int32).toInt = 1 → v0.toInt % 8 = 7 ∨ v0.toInt % 8 = 5 by have q0 := r6_3.1; have q1 := (eq_and (c := 8) (k := 3) ez3_1 (by decide) (by decide)); have q2 := (show (1 : Int32).toInt = 1 from by decide); omega), (show (1 : Int32).toInt = 0 → ¬ (v0.toInt % 8 = 7 ∨ v0.toInt % 8 = 5) by have q0 := (show (1 : Int32).toInt = 1 from by decide); omega)⟩ hP hD hS [] rfl (by decide) rfl (Nat.le_of_ble_eq_true rfl) (Nat.le_of_ble_eq_true rfl)
  · have t6_2 := (i_ne c6_1)
    have r6_3 : rg z3_1 0 6 := rg_neAh t6_2 r3_2 (show rg (7 : Int32) 7 7 from rg_l (by decide)) (by decide)
    refine lv_iload_n hx hb dX7_isWide_9 rfl (lv_at hl 0 rfl) ?_
    refine lv_bipush (v := 7) hx hb dX7_isWide_10 (by decide) ?_
    refine lv_iand hx hb dX7_isWide_12 ?_
    refine lv_topi (fun z12_1 ez12_1 => ?_)
    have r12_2 : rg z12_1 0 7 := rg_andr ez12_1 (show rg (7 : Int32) 7 7 from rg_l (by decide)) (by decide)
    refine lv_iconst (v := 5) hx hb dX7_isWide_13 (by decide) ?_
    refine lv_icmp_ne (tgt := 21) hx hb dX7_isWide_14 (by decide) (fun c14_1 => ?_) (fun c14_1 => ?_)
    · have t14_2 := (i_ne c14_1)
      refine lv_iconst (v := 0) hx hb dX7_isWide_21 (by decide) ?_
      exact endq_i hQ hx hb hr hlocks dX7_isWide_22 (by decide) () ⟨(rg_w (show rg (0 : Int32) 0 0 from rg_l (by decide)) (by decide)), (show (0 : Int32).toInt = 1 → v0.toInt % 8 = 7 ∨ v0.toInt % 8 = 5 by have q0 := (show (0 : Int32).toInt = 0 from by decide); omega), (show (0 : Int32).toInt = 0 → ¬ (v0.toInt % 8 = 7 ∨ v0.toInt % 8 = 5) by have q0 := r6_3.2; have q1 := (eq_and (c := 8) (k := 3) ez3_1 (by decide) (by decide)); have q2 := (eq_and (c := 8) (k := 3) ez12_1 (by decide) (by decide)); have q3 := t14_2; have q4 := (show (0 : Int32).toInt = 0 from by decide); have q5 := (show (5 : Int32).toInt = 5 from by decide); omega)⟩ hP hD hS [] rfl (by decide) rfl (Nat.le_of_ble_eq_true rfl) (Nat.le_of_ble_eq_true rfl)
    · have t14_2 := (i_eq c14_1)
      have r14_3 : rg z12_1 5 5 := rg_eqA t14_2 r12_2 (show rg (5 : Int32) 5 5 from rg_l (by decide)) (by decide)
      refine lv_iconst (v := 1) hx hb dX7_isWide_17 (by decide) ?_
      refine lv_goto (tgt := 22) hx hb dX7_isWide_18 (by decide) ?_
      exact endq_i hQ hx hb hr hlocks dX7_isWide_22 (by decide) () ⟨(rg_w (show rg (1 : Int32) 1 1 from rg_l (by decide)) (by decide)), (show (1 : Int32).toInt = 1 → v0.toInt % 8 = 7 ∨ v0.toInt % 8 = 5 by have q0 := r14_3.1; have q1 := r14_3.2; have q2 := (eq_and (c := 8) (k := 3) ez12_1 (by decide) (by decide)); have q3 := (show (1 : Int32).toInt = 1 from by decide); omega), (show (1 : Int32).toInt = 0 → ¬ (v0.toInt % 8 = 7 ∨ v0.toInt % 8 = 5) by have q0 := (show (1 : Int32).toInt = 1 from by decide); omega)⟩ hP hD hS [] rfl (by decide) rfl (Nat.le_of_ble_eq_true rfl) (Nat.le_of_ble_eq_true rfl)
set_option maxHeartbeats 2000000 in
theorem c_X7_isJump_w (l : Launch) (D : va_G) (ct : Nat → ClassId) (v0 : Int32) (h_v0 : rg v0 0 255) : KI (S := Unit) l yX7_isJump cX7_isJump 1 (some .boolean) 1 20 D ct [.int v0] [] 0 0 (fun (r : Int32) (_ : Unit) => rg r 0 1 ∧ (r.toInt = 1 → v0.toInt % 8 = 5 ∨ v0.toInt % 8 = 6) ∧ (r.toInt = 0 → ¬ (v0.toInt % 8 = 5 ∨ v0.toInt % 8 = 6))) (fun (_ : Unit) => []) := by
  refine KIq_of (by decide) (Nat.le_of_ble_eq_true rfl) (fun p e s m below meth c A Q C0 hA H locs hS hP hD hQ ls hl => ?_)
  obtain ⟨hx, hb, hr, hown, hin, hml, hlocks, hn, hK, hZ, hSK⟩ := C0
  have hl : lv_has ls 1 [(0, .int v0)] := hl
  refine lv_iload_n hx hb dX7_isJump_0 rfl (lv_at hl 0 rfl) ?_
  refine lv_bipush (v := 7) hx hb dX7_isJump_1 (by decide) ?_
  refine lv_iand hx hb dX7_isJump_3 ?_
  refine lv_topi (fun z3_1 ez3_1 => ?_)
  have r3_2 : rg z3_1 0 7 := rg_andr ez3_1 (show rg (7 : Int32) 7 7 from rg_l (by decide)) (by decide)
  refine lv_iconst (v := 5) hx hb dX7_isJump_4 (by decide) ?_
  refine lv_icmp_eq (tgt := 17) hx hb dX7_isJump_5 (by decide) (fun c5_1 => ?_) (fun c5_1 => ?_)
  · have t5_2 := (i_eq c5_1)
    have r5_3 : rg z3_1 5 5 := rg_eqA t5_2 r3_2 (show rg (5 : Int32) 5 5 from rg_l (by decide)) (by decide)
    refine lv_iconst (v := 1) hx hb dX7_isJump_17 (by decide) ?_
    refine lv_goto (tgt := 22) hx hb dX7_isJump_18 (by decide) ?_
    exact endq_i hQ hx hb hr hlocks dX7_isJump_22 (by decide) () ⟨(rg_w (show rg (1 : Int32) 1 1 from rg_l (by decide)) (by decide)), (show (1 : Int32).toInt = 1 → v0.toInt % 8 = 5 ∨ v0.toInt % 8 = 6 by have q0 := r5_3.1; have q1 := r5_3.2; have q2 := (eq_and (c := 8) (k := 3) ez3_1 (by decide) (by decide)); have q3 := (show (1 : Int32).toInt = 1 from by decide); omega), (show (1 : Int32).toInt = 0 → ¬ (v0.toInt % 8 = 5 ∨ v0.toInt % 8 = 6) by have q0 := (show (1 : Int32).toInt = 1 from by decide); omega)⟩ hP hD hS [] rfl (by decide) rfl (Nat.le_of_ble_eq_true rfl) (Nat.le_of_ble_eq_true rfl)
  · have t5_2 := (i_ne c5_1)
    refine lv_iload_n hx hb dX7_isJump_8 rfl (lv_at hl 0 rfl) ?_
    refine lv_bipush (v := 7) hx hb dX7_isJump_9 (by decide) ?_
    refine lv_iand hx hb dX7_isJump_11 ?_
    refine lv_topi (fun z11_1 ez11_1 => ?_)
    have r11_2 : rg z11_1 0 7 := rg_andr ez11_1 (show rg (7 : Int32) 7 7 from rg_l (by decide)) (by decide)
    refine lv_bipush (v := 6) hx hb dX7_isJump_12 (by decide) ?_
    refine lv_icmp_ne (tgt := 21) hx hb dX7_isJump_14 (by decide) (fun c14_1 => ?_) (fun c14_1 => ?_)
    · have t14_2 := (i_ne c14_1)
      refine lv_iconst (v := 0) hx hb dX7_isJump_21 (by decide) ?_
      exact endq_i hQ hx hb hr hlocks dX7_isJump_22 (by decide) () ⟨(rg_w (show rg (0 : Int32) 0 0 from rg_l (by decide)) (by decide)), (show (0 : Int32).toInt = 1 → v0.toInt % 8 = 5 ∨ v0.toInt % 8 = 6 by have q0 := (show (0 : Int32).toInt = 0 from by decide); omega), (show (0 : Int32).toInt = 0 → ¬ (v0.toInt % 8 = 5 ∨ v0.toInt % 8 = 6) by have q0 := (eq_and (c := 8) (k := 3) ez3_1 (by decide) (by decide)); have q1 := (eq_and (c := 8) (k := 3) ez11_1 (by decide) (by decide)); have q2 := t5_2; have q3 := t14_2; have q4 := (show (0 : Int32).toInt = 0 from by decide); have q5 := (show (5 : Int32).toInt = 5 from by decide); have q6 := (show (6 : Int32).toInt = 6 from by decide); omega)⟩ hP hD hS [] rfl (by decide) rfl (Nat.le_of_ble_eq_true rfl) (Nat.le_of_ble_eq_true rfl)
    · have t14_2 := (i_eq c14_1)
      have r14_3 : rg z11_1 6 6 := rg_eqA t14_2 r11_2 (show rg (6 : Int32) 6 6 from rg_l (by decide)) (by decide)
      refine lv_iconst (v := 1) hx hb dX7_isJump_17 (by decide) ?_
      refine lv_goto (tgt := 22) hx hb dX7_isJump_18 (by decide) ?_
      exact endq_i hQ hx hb hr hlocks dX7_isJump_22 (by decide) () ⟨(rg_w (show rg (1 : Int32) 1 1 from rg_l (by decide)) (by decide)), (show (1 : Int32).toInt = 1 → v0.toInt % 8 = 5 ∨ v0.toInt % 8 = 6 by have q0 := r14_3.1; have q1 := r14_3.2; have q2 := (eq_and (c := 8) (k := 3) ez11_1 (by decide) (by decide)); have q3 := (show (1 : Int32).toInt = 1 from by decide); omega), (show (1 : Int32).toInt = 0 → ¬ (v0.toInt % 8 = 5 ∨ v0.toInt % 8 = 6) by have q0 := (show (1 : Int32).toInt = 1 from by decide); omega)⟩ hP hD hS [] rfl (by decide) rfl (Nat.le_of_ble_eq_true rfl) (Nat.le_of_ble_eq_true rfl)
set_option maxHeartbeats 2000000 in
theorem c_X7_hasS_w (l : Launch) (D : va_G) (ct : Nat → ClassId) (v0 : Int32) (h_v0 : rg v0 0 255) : KI (S := Unit) l yX7_hasS cX7_hasS 1 (some .boolean) 1 20 D ct [.int v0] [] 0 0 (fun (r : Int32) (_ : Unit) => rg r 0 1 ∧ (r.toInt = 1 → (v0.toInt / 8) % 2 = 1) ∧ (r.toInt = 0 → (v0.toInt / 8) % 2 = 0)) (fun (_ : Unit) => []) := by
  refine KIq_of (by decide) (Nat.le_of_ble_eq_true rfl) (fun p e s m below meth c A Q C0 hA H locs hS hP hD hQ ls hl => ?_)
  obtain ⟨hx, hb, hr, hown, hin, hml, hlocks, hn, hK, hZ, hSK⟩ := C0
  have hl : lv_has ls 1 [(0, .int v0)] := hl
  refine lv_iload_n hx hb dX7_hasS_0 rfl (lv_at hl 0 rfl) ?_
  refine lv_bipush (v := 8) hx hb dX7_hasS_1 (by decide) ?_
  refine lv_iand hx hb dX7_hasS_3 ?_
  refine lv_topi (fun z3_1 ez3_1 => ?_)
  have r3_2 : rg z3_1 0 8 := rg_andr ez3_1 (show rg (8 : Int32) 8 8 from rg_l (by decide)) (by decide)
  refine lv_if_eq (tgt := 11) hx hb dX7_hasS_4 (by decide) (fun c4_1 => ?_) (fun c4_1 => ?_)
  · have t4_2 := (i_eq c4_1)
    have r4_3 : rg z3_1 0 0 := rg_eqA t4_2 r3_2 (show rg (0 : Int32) 0 0 from rg_l (by decide)) (by decide)
    refine lv_iconst (v := 0) hx hb dX7_hasS_11 (by decide) ?_
    exact endq_i hQ hx hb hr hlocks dX7_hasS_12 (by decide) () ⟨(rg_w (show rg (0 : Int32) 0 0 from rg_l (by decide)) (by decide)), (show (0 : Int32).toInt = 1 → (v0.toInt / 8) % 2 = 1 by have q0 := (show (0 : Int32).toInt = 0 from by decide); omega), (show (0 : Int32).toInt = 0 → (v0.toInt / 8) % 2 = 0 by have q0 := r4_3.2; have q1 := (eq_andbit (c := 8) (k := 3) ez3_1 (by decide) h_v0 (by decide)); have q2 := (show (0 : Int32).toInt = 0 from by decide); omega)⟩ hP hD hS [] rfl (by decide) rfl (Nat.le_of_ble_eq_true rfl) (Nat.le_of_ble_eq_true rfl)
  · have t4_2 := (i_ne c4_1)
    have r4_3 : rg z3_1 1 8 := rg_neAl t4_2 r3_2 (show rg (0 : Int32) 0 0 from rg_l (by decide)) (by decide)
    refine lv_iconst (v := 1) hx hb dX7_hasS_7 (by decide) ?_
    refine lv_goto (tgt := 12) hx hb dX7_hasS_8 (by decide) ?_
    exact endq_i hQ hx hb hr hlocks dX7_hasS_12 (by decide) () ⟨(rg_w (show rg (1 : Int32) 1 1 from rg_l (by decide)) (by decide)), (show (1 : Int32).toInt = 1 → (v0.toInt / 8) % 2 = 1 by have q0 := r4_3.1; have q1 := (eq_andbit (c := 8) (k := 3) ez3_1 (by decide) h_v0 (by decide)); have q2 := (show (1 : Int32).toInt = 1 from by decide); omega), (show (1 : Int32).toInt = 0 → (v0.toInt / 8) % 2 = 0 by have q0 := (show (1 : Int32).toInt = 1 from by decide); omega)⟩ hP hD hS [] rfl (by decide) rfl (Nat.le_of_ble_eq_true rfl) (Nat.le_of_ble_eq_true rfl)
set_option maxHeartbeats 2000000 in
theorem c_X7_isLoad_w (l : Launch) (D : va_G) (ct : Nat → ClassId) (v0 : Int32) (h_v0 : rg v0 0 255) : KI (S := Unit) l yX7_isLoad cX7_isLoad 1 (some .boolean) 1 20 D ct [.int v0] [] 0 0 (fun (r : Int32) (_ : Unit) => rg r 0 1 ∧ (r.toInt = 1 → (v0.toInt = 97 ∨ v0.toInt = 105 ∨ v0.toInt = 113 ∨ v0.toInt = 121)) ∧ (r.toInt = 0 → ¬ (v0.toInt = 97 ∨ v0.toInt = 105 ∨ v0.toInt = 113 ∨ v0.toInt = 121))) (fun (_ : Unit) => []) := by
  refine KIq_of (by decide) (Nat.le_of_ble_eq_true rfl) (fun p e s m below meth c A Q C0 hA H locs hS hP hD hQ ls hl => ?_)
  obtain ⟨hx, hb, hr, hown, hin, hml, hlocks, hn, hK, hZ, hSK⟩ := C0
  have hl : lv_has ls 1 [(0, .int v0)] := hl
  refine lv_iload_n hx hb dX7_isLoad_0 rfl (lv_at hl 0 rfl) ?_
  refine lv_bipush (v := 97) hx hb dX7_isLoad_1 (by decide) ?_
  refine lv_icmp_eq (tgt := 24) hx hb dX7_isLoad_3 (by decide) (fun c3_1 => ?_) (fun c3_1 => ?_)
  · have t3_2 := (i_eq c3_1)
    have r3_3 : rg v0 97 97 := rg_eqA t3_2 h_v0 (show rg (97 : Int32) 97 97 from rg_l (by decide)) (by decide)
    refine lv_iconst (v := 1) hx hb dX7_isLoad_24 (by decide) ?_
    refine lv_goto (tgt := 29) hx hb dX7_isLoad_25 (by decide) ?_
    exact endq_i hQ hx hb hr hlocks dX7_isLoad_29 (by decide) () ⟨(rg_w (show rg (1 : Int32) 1 1 from rg_l (by decide)) (by decide)), (show (1 : Int32).toInt = 1 → (v0.toInt = 97 ∨ v0.toInt = 105 ∨ v0.toInt = 113 ∨ v0.toInt = 121) by have q0 := r3_3.1; have q1 := r3_3.2; have q2 := (show (1 : Int32).toInt = 1 from by decide); omega), (show (1 : Int32).toInt = 0 → ¬ (v0.toInt = 97 ∨ v0.toInt = 105 ∨ v0.toInt = 113 ∨ v0.toInt = 121) by have q0 := (show (1 : Int32).toInt = 1 from by decide); omega)⟩ hP hD hS [] rfl (by decide) rfl (Nat.le_of_ble_eq_true rfl) (Nat.le_of_ble_eq_true rfl)
  · have t3_2 := (i_ne c3_1)
    refine lv_iload_n hx hb dX7_isLoad_6 rfl (lv_at hl 0 rfl) ?_
    refine lv_bipush (v := 105) hx hb dX7_isLoad_7 (by decide) ?_
    refine lv_icmp_eq (tgt := 24) hx hb dX7_isLoad_9 (by decide) (fun c9_1 => ?_) (fun c9_1 => ?_)
    · have t9_2 := (i_eq c9_1)
      have r9_3 : rg v0 105 105 := rg_eqA t9_2 h_v0 (show rg (105 : Int32) 105 105 from rg_l (by decide)) (by decide)
      refine lv_iconst (v := 1) hx hb dX7_isLoad_24 (by decide) ?_
      refine lv_goto (tgt := 29) hx hb dX7_isLoad_25 (by decide) ?_
      exact endq_i hQ hx hb hr hlocks dX7_isLoad_29 (by decide) () ⟨(rg_w (show rg (1 : Int32) 1 1 from rg_l (by decide)) (by decide)), (show (1 : Int32).toInt = 1 → (v0.toInt = 97 ∨ v0.toInt = 105 ∨ v0.toInt = 113 ∨ v0.toInt = 121) by have q0 := r9_3.1; have q1 := r9_3.2; have q2 := (show (1 : Int32).toInt = 1 from by decide); omega), (show (1 : Int32).toInt = 0 → ¬ (v0.toInt = 97 ∨ v0.toInt = 105 ∨ v0.toInt = 113 ∨ v0.toInt = 121) by have q0 := (show (1 : Int32).toInt = 1 from by decide); omega)⟩ hP hD hS [] rfl (by decide) rfl (Nat.le_of_ble_eq_true rfl) (Nat.le_of_ble_eq_true rfl)
    · have t9_2 := (i_ne c9_1)
      refine lv_iload_n hx hb dX7_isLoad_12 rfl (lv_at hl 0 rfl) ?_
      refine lv_bipush (v := 113) hx hb dX7_isLoad_13 (by decide) ?_
      refine lv_icmp_eq (tgt := 24) hx hb dX7_isLoad_15 (by decide) (fun c15_1 => ?_) (fun c15_1 => ?_)
      · have t15_2 := (i_eq c15_1)
        have r15_3 : rg v0 113 113 := rg_eqA t15_2 h_v0 (show rg (113 : Int32) 113 113 from rg_l (by decide)) (by decide)
        refine lv_iconst (v := 1) hx hb dX7_isLoad_24 (by decide) ?_
        refine lv_goto (tgt := 29) hx hb dX7_isLoad_25 (by decide) ?_
        exact endq_i hQ hx hb hr hlocks dX7_isLoad_29 (by decide) () ⟨(rg_w (show rg (1 : Int32) 1 1 from rg_l (by decide)) (by decide)), (show (1 : Int32).toInt = 1 → (v0.toInt = 97 ∨ v0.toInt = 105 ∨ v0.toInt = 113 ∨ v0.toInt = 121) by have q0 := r15_3.1; have q1 := r15_3.2; have q2 := (show (1 : Int32).toInt = 1 from by decide); omega), (show (1 : Int32).toInt = 0 → ¬ (v0.toInt = 97 ∨ v0.toInt = 105 ∨ v0.toInt = 113 ∨ v0.toInt = 121) by have q0 := (show (1 : Int32).toInt = 1 from by decide); omega)⟩ hP hD hS [] rfl (by decide) rfl (Nat.le_of_ble_eq_true rfl) (Nat.le_of_ble_eq_true rfl)
      · have t15_2 := (i_ne c15_1)
        refine lv_iload_n hx hb dX7_isLoad_18 rfl (lv_at hl 0 rfl) ?_
        refine lv_bipush (v := 121) hx hb dX7_isLoad_19 (by decide) ?_
        refine lv_icmp_ne (tgt := 28) hx hb dX7_isLoad_21 (by decide) (fun c21_1 => ?_) (fun c21_1 => ?_)
        · have t21_2 := (i_ne c21_1)
          refine lv_iconst (v := 0) hx hb dX7_isLoad_28 (by decide) ?_
          exact endq_i hQ hx hb hr hlocks dX7_isLoad_29 (by decide) () ⟨(rg_w (show rg (0 : Int32) 0 0 from rg_l (by decide)) (by decide)), (show (0 : Int32).toInt = 1 → (v0.toInt = 97 ∨ v0.toInt = 105 ∨ v0.toInt = 113 ∨ v0.toInt = 121) by have q0 := (show (0 : Int32).toInt = 0 from by decide); omega), (show (0 : Int32).toInt = 0 → ¬ (v0.toInt = 97 ∨ v0.toInt = 105 ∨ v0.toInt = 113 ∨ v0.toInt = 121) by have q0 := t3_2; have q1 := t9_2; have q2 := t15_2; have q3 := t21_2; have q4 := (show (0 : Int32).toInt = 0 from by decide); have q5 := (show (105 : Int32).toInt = 105 from by decide); have q6 := (show (113 : Int32).toInt = 113 from by decide); have q7 := (show (121 : Int32).toInt = 121 from by decide); have q8 := (show (97 : Int32).toInt = 97 from by decide); omega)⟩ hP hD hS [] rfl (by decide) rfl (Nat.le_of_ble_eq_true rfl) (Nat.le_of_ble_eq_true rfl)
        · have t21_2 := (i_eq c21_1)
          have r21_3 : rg v0 121 121 := rg_eqA t21_2 h_v0 (show rg (121 : Int32) 121 121 from rg_l (by decide)) (by decide)
          refine lv_iconst (v := 1) hx hb dX7_isLoad_24 (by decide) ?_
          refine lv_goto (tgt := 29) hx hb dX7_isLoad_25 (by decide) ?_
          exact endq_i hQ hx hb hr hlocks dX7_isLoad_29 (by decide) () ⟨(rg_w (show rg (1 : Int32) 1 1 from rg_l (by decide)) (by decide)), (show (1 : Int32).toInt = 1 → (v0.toInt = 97 ∨ v0.toInt = 105 ∨ v0.toInt = 113 ∨ v0.toInt = 121) by have q0 := r21_3.1; have q1 := r21_3.2; have q2 := (show (1 : Int32).toInt = 1 from by decide); omega), (show (1 : Int32).toInt = 0 → ¬ (v0.toInt = 97 ∨ v0.toInt = 105 ∨ v0.toInt = 113 ∨ v0.toInt = 121) by have q0 := (show (1 : Int32).toInt = 1 from by decide); omega)⟩ hP hD hS [] rfl (by decide) rfl (Nat.le_of_ble_eq_true rfl) (Nat.le_of_ble_eq_true rfl)
set_option maxHeartbeats 2000000 in
theorem c_X7_isRead_w (l : Launch) (D : va_G) (ct : Nat → ClassId) (v0 : Int32) (h_v0 : rg v0 0 255) : KI (S := Unit) l yX7_isRead cX7_isRead 1 (some .boolean) 1 20 D ct [.int v0] [] 0 0 (fun (r : Int32) (_ : Unit) => rg r 0 1 ∧ (r.toInt = 1 → (v0.toInt = 32 ∨ v0.toInt = 40 ∨ v0.toInt = 48 ∨ v0.toInt = 64 ∨ v0.toInt = 72 ∨ v0.toInt = 80)) ∧ (r.toInt = 0 → ¬ (v0.toInt = 32 ∨ v0.toInt = 40 ∨ v0.toInt = 48 ∨ v0.toInt = 64 ∨ v0.toInt = 72 ∨ v0.toInt = 80))) (fun (_ : Unit) => []) := by
  refine KIq_of (by decide) (Nat.le_of_ble_eq_true rfl) (fun p e s m below meth c A Q C0 hA H locs hS hP hD hQ ls hl => ?_)
  obtain ⟨hx, hb, hr, hown, hin, hml, hlocks, hn, hK, hZ, hSK⟩ := C0
  have hl : lv_has ls 1 [(0, .int v0)] := hl
  refine lv_iload_n hx hb dX7_isRead_0 rfl (lv_at hl 0 rfl) ?_
  refine lv_bipush (v := 32) hx hb dX7_isRead_1 (by decide) ?_
  refine lv_icmp_eq (tgt := 36) hx hb dX7_isRead_3 (by decide) (fun c3_1 => ?_) (fun c3_1 => ?_)
  · have t3_2 := (i_eq c3_1)
    have r3_3 : rg v0 32 32 := rg_eqA t3_2 h_v0 (show rg (32 : Int32) 32 32 from rg_l (by decide)) (by decide)
    refine lv_iconst (v := 1) hx hb dX7_isRead_36 (by decide) ?_
    refine lv_goto (tgt := 41) hx hb dX7_isRead_37 (by decide) ?_
    exact endq_i hQ hx hb hr hlocks dX7_isRead_41 (by decide) () ⟨(rg_w (show rg (1 : Int32) 1 1 from rg_l (by decide)) (by decide)), (show (1 : Int32).toInt = 1 → (v0.toInt = 32 ∨ v0.toInt = 40 ∨ v0.toInt = 48 ∨ v0.toInt = 64 ∨ v0.toInt = 72 ∨ v0.toInt = 80) by have q0 := r3_3.1; have q1 := r3_3.2; have q2 := (show (1 : Int32).toInt = 1 from by decide); omega), (show (1 : Int32).toInt = 0 → ¬ (v0.toInt = 32 ∨ v0.toInt = 40 ∨ v0.toInt = 48 ∨ v0.toInt = 64 ∨ v0.toInt = 72 ∨ v0.toInt = 80) by have q0 := (show (1 : Int32).toInt = 1 from by decide); omega)⟩ hP hD hS [] rfl (by decide) rfl (Nat.le_of_ble_eq_true rfl) (Nat.le_of_ble_eq_true rfl)
  · have t3_2 := (i_ne c3_1)
    refine lv_iload_n hx hb dX7_isRead_6 rfl (lv_at hl 0 rfl) ?_
    refine lv_bipush (v := 40) hx hb dX7_isRead_7 (by decide) ?_
    refine lv_icmp_eq (tgt := 36) hx hb dX7_isRead_9 (by decide) (fun c9_1 => ?_) (fun c9_1 => ?_)
    · have t9_2 := (i_eq c9_1)
      have r9_3 : rg v0 40 40 := rg_eqA t9_2 h_v0 (show rg (40 : Int32) 40 40 from rg_l (by decide)) (by decide)
      refine lv_iconst (v := 1) hx hb dX7_isRead_36 (by decide) ?_
      refine lv_goto (tgt := 41) hx hb dX7_isRead_37 (by decide) ?_
      exact endq_i hQ hx hb hr hlocks dX7_isRead_41 (by decide) () ⟨(rg_w (show rg (1 : Int32) 1 1 from rg_l (by decide)) (by decide)), (show (1 : Int32).toInt = 1 → (v0.toInt = 32 ∨ v0.toInt = 40 ∨ v0.toInt = 48 ∨ v0.toInt = 64 ∨ v0.toInt = 72 ∨ v0.toInt = 80) by have q0 := r9_3.1; have q1 := r9_3.2; have q2 := (show (1 : Int32).toInt = 1 from by decide); omega), (show (1 : Int32).toInt = 0 → ¬ (v0.toInt = 32 ∨ v0.toInt = 40 ∨ v0.toInt = 48 ∨ v0.toInt = 64 ∨ v0.toInt = 72 ∨ v0.toInt = 80) by have q0 := (show (1 : Int32).toInt = 1 from by decide); omega)⟩ hP hD hS [] rfl (by decide) rfl (Nat.le_of_ble_eq_true rfl) (Nat.le_of_ble_eq_true rfl)
    · have t9_2 := (i_ne c9_1)
      refine lv_iload_n hx hb dX7_isRead_12 rfl (lv_at hl 0 rfl) ?_
      refine lv_bipush (v := 48) hx hb dX7_isRead_13 (by decide) ?_
      refine lv_icmp_eq (tgt := 36) hx hb dX7_isRead_15 (by decide) (fun c15_1 => ?_) (fun c15_1 => ?_)
      · have t15_2 := (i_eq c15_1)
        have r15_3 : rg v0 48 48 := rg_eqA t15_2 h_v0 (show rg (48 : Int32) 48 48 from rg_l (by decide)) (by decide)
        refine lv_iconst (v := 1) hx hb dX7_isRead_36 (by decide) ?_
        refine lv_goto (tgt := 41) hx hb dX7_isRead_37 (by decide) ?_
        exact endq_i hQ hx hb hr hlocks dX7_isRead_41 (by decide) () ⟨(rg_w (show rg (1 : Int32) 1 1 from rg_l (by decide)) (by decide)), (show (1 : Int32).toInt = 1 → (v0.toInt = 32 ∨ v0.toInt = 40 ∨ v0.toInt = 48 ∨ v0.toInt = 64 ∨ v0.toInt = 72 ∨ v0.toInt = 80) by have q0 := r15_3.1; have q1 := r15_3.2; have q2 := (show (1 : Int32).toInt = 1 from by decide); omega), (show (1 : Int32).toInt = 0 → ¬ (v0.toInt = 32 ∨ v0.toInt = 40 ∨ v0.toInt = 48 ∨ v0.toInt = 64 ∨ v0.toInt = 72 ∨ v0.toInt = 80) by have q0 := (show (1 : Int32).toInt = 1 from by decide); omega)⟩ hP hD hS [] rfl (by decide) rfl (Nat.le_of_ble_eq_true rfl) (Nat.le_of_ble_eq_true rfl)
      · have t15_2 := (i_ne c15_1)
        refine lv_iload_n hx hb dX7_isRead_18 rfl (lv_at hl 0 rfl) ?_
        refine lv_bipush (v := 64) hx hb dX7_isRead_19 (by decide) ?_
        refine lv_icmp_eq (tgt := 36) hx hb dX7_isRead_21 (by decide) (fun c21_1 => ?_) (fun c21_1 => ?_)
        · have t21_2 := (i_eq c21_1)
          have r21_3 : rg v0 64 64 := rg_eqA t21_2 h_v0 (show rg (64 : Int32) 64 64 from rg_l (by decide)) (by decide)
          refine lv_iconst (v := 1) hx hb dX7_isRead_36 (by decide) ?_
          refine lv_goto (tgt := 41) hx hb dX7_isRead_37 (by decide) ?_
          exact endq_i hQ hx hb hr hlocks dX7_isRead_41 (by decide) () ⟨(rg_w (show rg (1 : Int32) 1 1 from rg_l (by decide)) (by decide)), (show (1 : Int32).toInt = 1 → (v0.toInt = 32 ∨ v0.toInt = 40 ∨ v0.toInt = 48 ∨ v0.toInt = 64 ∨ v0.toInt = 72 ∨ v0.toInt = 80) by have q0 := r21_3.1; have q1 := r21_3.2; have q2 := (show (1 : Int32).toInt = 1 from by decide); omega), (show (1 : Int32).toInt = 0 → ¬ (v0.toInt = 32 ∨ v0.toInt = 40 ∨ v0.toInt = 48 ∨ v0.toInt = 64 ∨ v0.toInt = 72 ∨ v0.toInt = 80) by have q0 := (show (1 : Int32).toInt = 1 from by decide); omega)⟩ hP hD hS [] rfl (by decide) rfl (Nat.le_of_ble_eq_true rfl) (Nat.le_of_ble_eq_true rfl)
        · have t21_2 := (i_ne c21_1)
          refine lv_iload_n hx hb dX7_isRead_24 rfl (lv_at hl 0 rfl) ?_
          refine lv_bipush (v := 72) hx hb dX7_isRead_25 (by decide) ?_
          refine lv_icmp_eq (tgt := 36) hx hb dX7_isRead_27 (by decide) (fun c27_1 => ?_) (fun c27_1 => ?_)
          · have t27_2 := (i_eq c27_1)
            have r27_3 : rg v0 72 72 := rg_eqA t27_2 h_v0 (show rg (72 : Int32) 72 72 from rg_l (by decide)) (by decide)
            refine lv_iconst (v := 1) hx hb dX7_isRead_36 (by decide) ?_
            refine lv_goto (tgt := 41) hx hb dX7_isRead_37 (by decide) ?_
            exact endq_i hQ hx hb hr hlocks dX7_isRead_41 (by decide) () ⟨(rg_w (show rg (1 : Int32) 1 1 from rg_l (by decide)) (by decide)), (show (1 : Int32).toInt = 1 → (v0.toInt = 32 ∨ v0.toInt = 40 ∨ v0.toInt = 48 ∨ v0.toInt = 64 ∨ v0.toInt = 72 ∨ v0.toInt = 80) by have q0 := r27_3.1; have q1 := r27_3.2; have q2 := (show (1 : Int32).toInt = 1 from by decide); omega), (show (1 : Int32).toInt = 0 → ¬ (v0.toInt = 32 ∨ v0.toInt = 40 ∨ v0.toInt = 48 ∨ v0.toInt = 64 ∨ v0.toInt = 72 ∨ v0.toInt = 80) by have q0 := (show (1 : Int32).toInt = 1 from by decide); omega)⟩ hP hD hS [] rfl (by decide) rfl (Nat.le_of_ble_eq_true rfl) (Nat.le_of_ble_eq_true rfl)
          · have t27_2 := (i_ne c27_1)
            refine lv_iload_n hx hb dX7_isRead_30 rfl (lv_at hl 0 rfl) ?_
            refine lv_bipush (v := 80) hx hb dX7_isRead_31 (by decide) ?_
            refine lv_icmp_ne (tgt := 40) hx hb dX7_isRead_33 (by decide) (fun c33_1 => ?_) (fun c33_1 => ?_)
            · have t33_2 := (i_ne c33_1)
              refine lv_iconst (v := 0) hx hb dX7_isRead_40 (by decide) ?_
              exact endq_i hQ hx hb hr hlocks dX7_isRead_41 (by decide) () ⟨(rg_w (show rg (0 : Int32) 0 0 from rg_l (by decide)) (by decide)), (show (0 : Int32).toInt = 1 → (v0.toInt = 32 ∨ v0.toInt = 40 ∨ v0.toInt = 48 ∨ v0.toInt = 64 ∨ v0.toInt = 72 ∨ v0.toInt = 80) by have q0 := (show (0 : Int32).toInt = 0 from by decide); omega), (show (0 : Int32).toInt = 0 → ¬ (v0.toInt = 32 ∨ v0.toInt = 40 ∨ v0.toInt = 48 ∨ v0.toInt = 64 ∨ v0.toInt = 72 ∨ v0.toInt = 80) by have q0 := t3_2; have q1 := t9_2; have q2 := t15_2; have q3 := t21_2; have q4 := t27_2; have q5 := t33_2; have q6 := (show (0 : Int32).toInt = 0 from by decide); have q7 := (show (32 : Int32).toInt = 32 from by decide); have q8 := (show (40 : Int32).toInt = 40 from by decide); have q9 := (show (48 : Int32).toInt = 48 from by decide); have q10 := (show (64 : Int32).toInt = 64 from by decide); have q11 := (show (72 : Int32).toInt = 72 from by decide); have q12 := (show (80 : Int32).toInt = 80 from by decide); omega)⟩ hP hD hS [] rfl (by decide) rfl (Nat.le_of_ble_eq_true rfl) (Nat.le_of_ble_eq_true rfl)
            · have t33_2 := (i_eq c33_1)
              have r33_3 : rg v0 80 80 := rg_eqA t33_2 h_v0 (show rg (80 : Int32) 80 80 from rg_l (by decide)) (by decide)
              refine lv_iconst (v := 1) hx hb dX7_isRead_36 (by decide) ?_
              refine lv_goto (tgt := 41) hx hb dX7_isRead_37 (by decide) ?_
              exact endq_i hQ hx hb hr hlocks dX7_isRead_41 (by decide) () ⟨(rg_w (show rg (1 : Int32) 1 1 from rg_l (by decide)) (by decide)), (show (1 : Int32).toInt = 1 → (v0.toInt = 32 ∨ v0.toInt = 40 ∨ v0.toInt = 48 ∨ v0.toInt = 64 ∨ v0.toInt = 72 ∨ v0.toInt = 80) by have q0 := r33_3.1; have q1 := r33_3.2; have q2 := (show (1 : Int32).toInt = 1 from by decide); omega), (show (1 : Int32).toInt = 0 → ¬ (v0.toInt = 32 ∨ v0.toInt = 40 ∨ v0.toInt = 48 ∨ v0.toInt = 64 ∨ v0.toInt = 72 ∨ v0.toInt = 80) by have q0 := (show (1 : Int32).toInt = 1 from by decide); omega)⟩ hP hD hS [] rfl (by decide) rfl (Nat.le_of_ble_eq_true rfl) (Nat.le_of_ble_eq_true rfl)
set_option maxHeartbeats 2000000 in
theorem c_X7_sizeOf_w (l : Launch) (D : va_G) (ct : Nat → ClassId) (v0 : Int32) (h_v0 : rg v0 0 255) : KI (S := Unit) l yX7_sizeOf cX7_sizeOf 1 (some .int) 1 20 D ct [.int v0] [] 0 0 (fun (r : Int32) (_ : Unit) => rg r 1 8 ∧ ((v0.toInt / 8) % 4 = 0 → r.toInt = 4) ∧ ((v0.toInt / 8) % 4 = 1 → r.toInt = 2) ∧ ((v0.toInt / 8) % 4 = 2 → r.toInt = 1) ∧ ((v0.toInt / 8) % 4 = 3 → r.toInt = 8)) (fun (_ : Unit) => []) := by
  refine KIq_of (by decide) (Nat.le_of_ble_eq_true rfl) (fun p e s m below meth c A Q C0 hA H locs hS hP hD hQ ls hl => ?_)
  obtain ⟨hx, hb, hr, hown, hin, hml, hlocks, hn, hK, hZ, hSK⟩ := C0
  have hl : lv_has ls 1 [(0, .int v0)] := hl
  refine lv_iload_n hx hb dX7_sizeOf_0 rfl (lv_at hl 0 rfl) ?_
  refine lv_iconst (v := 3) hx hb dX7_sizeOf_1 (by decide) ?_
  refine lv_ishr hx hb dX7_sizeOf_2 ?_
  refine lv_topi (fun z2_1 ez2_1 => ?_)
  have r2_2 : rg z2_1 0 31 := rg_shr (k := 3) ez2_1 (by decide) h_v0 (by decide)
  refine lv_iconst (v := 3) hx hb dX7_sizeOf_3 (by decide) ?_
  refine lv_iand hx hb dX7_sizeOf_4 ?_
  refine lv_topi (fun z4_1 ez4_1 => ?_)
  have r4_2 : rg z4_1 0 3 := rg_andr ez4_1 (show rg (3 : Int32) 3 3 from rg_l (by decide)) (by decide)
  by_cases h5_101 : z4_1.toInt = 0
  · have r5_102 : rg z4_1 0 0 := rg_at h5_101
    have hl5_103 := FF.mk h5_101
    refine lv_tableIn (off := 27) (tgt := 32) hx hb dX7_sizeOf_5 (by rw [h5_101]; decide) (by rw [h5_101]; decide) (by rw [h5_101]; rfl) (by decide) ?_
    refine lv_iconst (v := 4) hx hb dX7_sizeOf_32 (by decide) ?_
    exact endq_i hQ hx hb hr hlocks dX7_sizeOf_33 rfl () ⟨(rg_w (show rg (4 : Int32) 4 4 from rg_l (by decide)) (by decide)), (show (v0.toInt / 8) % 4 = 0 → (4 : Int32).toInt = 4 by have q0 := (show (4 : Int32).toInt = 4 from by decide); omega), (show (v0.toInt / 8) % 4 = 1 → (4 : Int32).toInt = 2 by have q0 := r5_102.2; have q1 := (eq_and (c := 4) (k := 2) ez4_1 (by decide) (by decide)); have q2 := (eq_shr (c := 8) (k := 3) ez2_1 (by decide) (by decide)); have q3 := (show (4 : Int32).toInt = 4 from by decide); omega), (show (v0.toInt / 8) % 4 = 2 → (4 : Int32).toInt = 1 by have q0 := r5_102.2; have q1 := (eq_and (c := 4) (k := 2) ez4_1 (by decide) (by decide)); have q2 := (eq_shr (c := 8) (k := 3) ez2_1 (by decide) (by decide)); have q3 := (show (4 : Int32).toInt = 4 from by decide); omega), (show (v0.toInt / 8) % 4 = 3 → (4 : Int32).toInt = 8 by have q0 := r5_102.2; have q1 := (eq_and (c := 4) (k := 2) ez4_1 (by decide) (by decide)); have q2 := (eq_shr (c := 8) (k := 3) ez2_1 (by decide) (by decide)); have q3 := (show (4 : Int32).toInt = 4 from by decide); omega)⟩ hP hD hS [] rfl (by decide) rfl (Nat.le_of_ble_eq_true rfl) (Nat.le_of_ble_eq_true rfl)
  by_cases h5_111 : z4_1.toInt = 1
  · have r5_112 : rg z4_1 1 1 := rg_at h5_111
    have hl5_113 := FF.mk h5_111
    refine lv_tableIn (off := 29) (tgt := 34) hx hb dX7_sizeOf_5 (by rw [h5_111]; decide) (by rw [h5_111]; decide) (by rw [h5_111]; rfl) (by decide) ?_
    refine lv_iconst (v := 2) hx hb dX7_sizeOf_34 (by decide) ?_
    exact endq_i hQ hx hb hr hlocks dX7_sizeOf_35 rfl () ⟨(rg_w (show rg (2 : Int32) 2 2 from rg_l (by decide)) (by decide)), (show (v0.toInt / 8) % 4 = 0 → (2 : Int32).toInt = 4 by have q0 := r5_112.1; have q1 := (eq_and (c := 4) (k := 2) ez4_1 (by decide) (by decide)); have q2 := (eq_shr (c := 8) (k := 3) ez2_1 (by decide) (by decide)); have q3 := (show (2 : Int32).toInt = 2 from by decide); omega), (show (v0.toInt / 8) % 4 = 1 → (2 : Int32).toInt = 2 by have q0 := (show (2 : Int32).toInt = 2 from by decide); omega), (show (v0.toInt / 8) % 4 = 2 → (2 : Int32).toInt = 1 by have q0 := r5_112.2; have q1 := (eq_and (c := 4) (k := 2) ez4_1 (by decide) (by decide)); have q2 := (eq_shr (c := 8) (k := 3) ez2_1 (by decide) (by decide)); have q3 := (show (2 : Int32).toInt = 2 from by decide); omega), (show (v0.toInt / 8) % 4 = 3 → (2 : Int32).toInt = 8 by have q0 := r5_112.2; have q1 := (eq_and (c := 4) (k := 2) ez4_1 (by decide) (by decide)); have q2 := (eq_shr (c := 8) (k := 3) ez2_1 (by decide) (by decide)); have q3 := (show (2 : Int32).toInt = 2 from by decide); omega)⟩ hP hD hS [] rfl (by decide) rfl (Nat.le_of_ble_eq_true rfl) (Nat.le_of_ble_eq_true rfl)
  by_cases h5_121 : z4_1.toInt = 2
  · have r5_122 : rg z4_1 2 2 := rg_at h5_121
    have hl5_123 := FF.mk h5_121
    refine lv_tableIn (off := 31) (tgt := 36) hx hb dX7_sizeOf_5 (by rw [h5_121]; decide) (by rw [h5_121]; decide) (by rw [h5_121]; rfl) (by decide) ?_
    refine lv_iconst (v := 1) hx hb dX7_sizeOf_36 (by decide) ?_
    exact endq_i hQ hx hb hr hlocks dX7_sizeOf_37 rfl () ⟨(rg_w (show rg (1 : Int32) 1 1 from rg_l (by decide)) (by decide)), (show (v0.toInt / 8) % 4 = 0 → (1 : Int32).toInt = 4 by have q0 := r5_122.1; have q1 := (eq_and (c := 4) (k := 2) ez4_1 (by decide) (by decide)); have q2 := (eq_shr (c := 8) (k := 3) ez2_1 (by decide) (by decide)); have q3 := (show (1 : Int32).toInt = 1 from by decide); omega), (show (v0.toInt / 8) % 4 = 1 → (1 : Int32).toInt = 2 by have q0 := r5_122.1; have q1 := (eq_and (c := 4) (k := 2) ez4_1 (by decide) (by decide)); have q2 := (eq_shr (c := 8) (k := 3) ez2_1 (by decide) (by decide)); have q3 := (show (1 : Int32).toInt = 1 from by decide); omega), (show (v0.toInt / 8) % 4 = 2 → (1 : Int32).toInt = 1 by have q0 := (show (1 : Int32).toInt = 1 from by decide); omega), (show (v0.toInt / 8) % 4 = 3 → (1 : Int32).toInt = 8 by have q0 := r5_122.2; have q1 := (eq_and (c := 4) (k := 2) ez4_1 (by decide) (by decide)); have q2 := (eq_shr (c := 8) (k := 3) ez2_1 (by decide) (by decide)); have q3 := (show (1 : Int32).toInt = 1 from by decide); omega)⟩ hP hD hS [] rfl (by decide) rfl (Nat.le_of_ble_eq_true rfl) (Nat.le_of_ble_eq_true rfl)
  refine lv_tableOut (tgt := 38) hx hb dX7_sizeOf_5 (by have q0 := r4_2; have q1 := q0.1; have q2 := q0.2; omega) (by decide) ?_
  have hl5_5001 := h5_101
  have hl5_5002 := h5_111
  have hl5_5003 := h5_121
  refine lv_bipush (v := 8) hx hb dX7_sizeOf_38 (by decide) ?_
  exact endq_i hQ hx hb hr hlocks dX7_sizeOf_40 rfl () ⟨(rg_w (show rg (8 : Int32) 8 8 from rg_l (by decide)) (by decide)), (show (v0.toInt / 8) % 4 = 0 → (8 : Int32).toInt = 4 by have q0 := r4_2.1; have q1 := (eq_and (c := 4) (k := 2) ez4_1 (by decide) (by decide)); have q2 := (eq_shr (c := 8) (k := 3) ez2_1 (by decide) (by decide)); have q3 := hl5_5001; have q4 := (show (8 : Int32).toInt = 8 from by decide); omega), (show (v0.toInt / 8) % 4 = 1 → (8 : Int32).toInt = 2 by have q0 := (eq_and (c := 4) (k := 2) ez4_1 (by decide) (by decide)); have q1 := (eq_shr (c := 8) (k := 3) ez2_1 (by decide) (by decide)); have q2 := hl5_5002; have q3 := (show (8 : Int32).toInt = 8 from by decide); omega), (show (v0.toInt / 8) % 4 = 2 → (8 : Int32).toInt = 1 by have q0 := (eq_and (c := 4) (k := 2) ez4_1 (by decide) (by decide)); have q1 := (eq_shr (c := 8) (k := 3) ez2_1 (by decide) (by decide)); have q2 := hl5_5003; have q3 := (show (8 : Int32).toInt = 8 from by decide); omega), (show (v0.toInt / 8) % 4 = 3 → (8 : Int32).toInt = 8 by have q0 := (show (8 : Int32).toInt = 8 from by decide); omega)⟩ hP hD hS [] rfl (by decide) rfl (Nat.le_of_ble_eq_true rfl) (Nat.le_of_ble_eq_true rfl)
set_option maxHeartbeats 2000000 in
theorem c_X7_offOf_w (l : Launch) (D : va_G) (ct : Nat → ClassId) (v0 : Int64)  : KI (S := Unit) l yX7_offOf cX7_offOf 2 (some .int) 1 20 D ct [.long v0] [] 0 0 (fun (r : Int32) (_ : Unit) => rg r (-32768) 32767 ∧ (r.toInt = (v0.toInt / 65536 + 32768) % 65536 - 32768)) (fun (_ : Unit) => []) := by
  refine KIq_of (by decide) (Nat.le_of_ble_eq_true rfl) (fun p e s m below meth c A Q C0 hA H locs hS hP hD hQ ls hl => ?_)
  obtain ⟨hx, hb, hr, hown, hin, hml, hlocks, hn, hK, hZ, hSK⟩ := C0
  have hl : lv_has ls 2 [(0, .long v0)] := hl
  refine lv_lload_n hx hb dX7_offOf_0 rfl (lv_at hl 0 rfl) ?_
  refine lv_bipush (v := 16) hx hb dX7_offOf_1 (by decide) ?_
  refine lv_lshr hx hb dX7_offOf_3 rfl ?_
  refine lv_topl (fun z3_1 ez3_1 => ?_)
  have r3_2 : rl z3_1 (-140737488355328) 140737488355327 := (rl_of (show (-140737488355328) ≤ z3_1.toInt ∧ z3_1.toInt ≤ 140737488355327 by have q0 := (rl_any z3_1).1; have q1 := (rl_any z3_1).2; have q2 := (eqL_shr (c := 65536) (k := 16) ez3_1 (by decide) (by decide)); have q3 := (rl_any v0).1; have q4 := (rl_any v0).2; omega))
  refine lv_l2i hx hb dX7_offOf_4 rfl ?_
  refine lv_topi (fun z4_1 ez4_1 => ?_)
  refine lv_i2s hx hb dX7_offOf_5 rfl ?_
  refine lv_topi (fun z5_1 ez5_1 => ?_)
  have r5_2 : rg z5_1 (-32768) 32767 := rg_i2s ez5_1
  exact endq_i hQ hx hb hr hlocks dX7_offOf_6 rfl () ⟨r5_2, (show z5_1.toInt = (v0.toInt / 65536 + 32768) % 65536 - 32768 by have q0 := (rl_any v0).1; have q1 := (rl_any v0).2; have q2 := r5_2.1; have q3 := r5_2.2; have q4 := (eq_i2s ez5_1); have q5 := (rg_any z4_1).1; have q6 := (rg_any z4_1).2; have q7 := (em_l2i ez4_1); have q8 := r3_2.1; have q9 := r3_2.2; have q10 := (eqL_shr (c := 65536) (k := 16) ez3_1 (by decide) (by decide)); omega)⟩ hP hD hS [] rfl (by decide) rfl (Nat.le_of_ble_eq_true rfl) (Nat.le_of_ble_eq_true rfl)
set_option maxHeartbeats 2000000 in
theorem c_X7_kOf_w (l : Launch) (D : va_G) (ct : Nat → ClassId) (v0 : Int64)  : KI (S := Unit) l yX7_kOf cX7_kOf 2 (some .int) 1 20 D ct [.long v0] [] 0 0 (fun (r : Int32) (_ : Unit) => (r.toInt = v0.toInt / 4294967296)) (fun (_ : Unit) => []) := by
  refine KIq_of (by decide) (Nat.le_of_ble_eq_true rfl) (fun p e s m below meth c A Q C0 hA H locs hS hP hD hQ ls hl => ?_)
  obtain ⟨hx, hb, hr, hown, hin, hml, hlocks, hn, hK, hZ, hSK⟩ := C0
  have hl : lv_has ls 2 [(0, .long v0)] := hl
  refine lv_lload_n hx hb dX7_kOf_0 rfl (lv_at hl 0 rfl) ?_
  refine lv_bipush (v := 32) hx hb dX7_kOf_1 (by decide) ?_
  refine lv_lshr hx hb dX7_kOf_3 rfl ?_
  refine lv_topl (fun z3_1 ez3_1 => ?_)
  have r3_2 : rl z3_1 (-2147483648) 2147483647 := (rl_of (show (-2147483648) ≤ z3_1.toInt ∧ z3_1.toInt ≤ 2147483647 by have q0 := (rl_any z3_1).1; have q1 := (rl_any z3_1).2; have q2 := (eqL_shr (c := 4294967296) (k := 32) ez3_1 (by decide) (by decide)); have q3 := (rl_any v0).1; have q4 := (rl_any v0).2; omega))
  have r4_1 : rl z3_1 (-2147483648) 2147483647 := rl_of (show -2147483648 ≤ z3_1.toInt ∧ z3_1.toInt ≤ 2147483647 by have q0 := r3_2.1; have q1 := r3_2.2; omega)
  refine lv_l2i hx hb dX7_kOf_4 rfl ?_
  refine lv_topi (fun z4_2 ez4_2 => ?_)
  have r4_3 : rg z4_2 (-2147483648) 2147483647 := rg_l2i ez4_2 r4_1 (by decide)
  exact endq_i hQ hx hb hr hlocks dX7_kOf_5 rfl () (show z4_2.toInt = v0.toInt / 4294967296 by have q0 := (rl_any v0).1; have q1 := (rl_any v0).2; have q2 := r4_3.1; have q3 := r4_3.2; have q4 := (eq_l2i ez4_2 r4_1 (by decide)); have q5 := r4_1.1; have q6 := r4_1.2; have q7 := (eqL_shr (c := 4294967296) (k := 32) ez3_1 (by decide) (by decide)); omega) hP hD hS [] rfl (by decide) rfl (Nat.le_of_ble_eq_true rfl) (Nat.le_of_ble_eq_true rfl)
set_option maxHeartbeats 2000000 in
theorem c_X10_putNumber_w (l : Launch) (D : va_G) (ct : Nat → ClassId) (tl : Nat) (v0 : Int32) (v1 : Int32) (tls : Nat) (o0 : Nat) (p0 : Nat) (x_tl_3 : Int32) (x_tl_4 : Int32) (o0r : Nat) (x_o0_1 : Int32) (g_o0r : Nat → Int32) (h_x_tl_3 : rg x_tl_3 0 1) (h_x_tl_4 : rg x_tl_4 0 999950) (h_x_o0_1 : rg x_o0_1 0 60000) : KV (S := Int32 × (Nat → Int32)) l yX10_putNumber cX10_putNumber 3 none 2 41 D ct [.ref tl, .int v0, .int v1] [(tl, .inr (10, [.ref tls, .ref o0, .ref p0, .int x_tl_3, .int x_tl_4])), (o0, .inr (5, [.ref o0r, .int x_o0_1])), (o0r, .inl (ct 1, 60000, .inl g_o0r))] 0 0 (fun (u : Int32 × (Nat → Int32)) => match u with | (y_tl_4, k_o0r) => rg y_tl_4 1 1000001 ∧ (x_tl_4.toInt + 1 ≤ y_tl_4.toInt ∧ y_tl_4.toInt ≤ x_tl_4.toInt + 2) ∧ (-2048 ≤ v1.toInt ∧ v1.toInt ≤ 2047 → y_tl_4.toInt = x_tl_4.toInt + 1) ∧ (v1.toInt < -2048 ∨ 2047 < v1.toInt → y_tl_4.toInt = x_tl_4.toInt + 2)) (fun (u : Int32 × (Nat → Int32)) => match u with | (y_tl_4, k_o0r) => [(tl, .inr (10, [.ref tls, .ref o0, .ref p0, .int x_tl_3, .int y_tl_4])), (o0, .inr (5, [.ref o0r, .int x_o0_1])), (o0r, .inl (ct 1, 60000, .inl k_o0r))]) := by
  refine KVq_of (by decide) (Nat.le_of_ble_eq_true rfl) (fun p e s m below meth c A Q C0 hA H locs hS hP hD hQ ls hl => ?_)
  obtain ⟨hx, hb, hr, hown, hin, hml, hlocks, hn, hK, hZ, hSK⟩ := C0
  have hl : lv_has ls 3 [(0, .ref tl), (1, .int v0), (2, .int v1)] := hl
  refine lv_iload_n hx hb dX10_putNumber_0 rfl (lv_at hl 2 rfl) ?_
  refine lv_sipush (v := (-2048)) hx hb dX10_putNumber_1 (by decide) ?_
  refine lv_icmp_lt (tgt := 31) hx hb dX10_putNumber_4 (by decide) (fun c4_1 => ?_) (fun c4_1 => ?_)
  · have t4_2 := (i_lt c4_1)
    have r4_3 : rg v1 (-2147483648) (-2049) := rg_ltA t4_2 (rg_any v1) (show rg ((-2048) : Int32) (-2048) (-2048) from rg_l (by decide)) (by decide)
    refine lv_aload_n hx hb dX10_putNumber_31 rfl (lv_at hl 0 rfl) ?_
    refine lv_iload_n hx hb dX10_putNumber_32 rfl (lv_at hl 2 rfl) ?_
    refine lv_sipush (v := 2048) hx hb dX10_putNumber_33 (by decide) ?_
    refine lv_iadd hx hb dX10_putNumber_36 ?_
    refine lv_topi (fun z36_1 ez36_1 => ?_)
    have r36_2 : rg z36_1 (-2147481600) (-1) := rg_add ez36_1 r4_3 (show rg (2048 : Int32) 2048 2048 from rg_l (by decide)) (by decide)
    refine lv_sipush (v := (-4096)) hx hb dX10_putNumber_37 (by decide) ?_
    refine lv_iand hx hb dX10_putNumber_40 ?_
    refine lv_topi (fun z40_1 ez40_1 => ?_)
    refine lv_iload_n hx hb dX10_putNumber_41 rfl (lv_at hl 1 rfl) ?_
    refine lv_bipush (v := 7) hx hb dX10_putNumber_42 (by decide) ?_
    refine lv_ishl hx hb dX10_putNumber_44 ?_
    refine lv_topi (fun z44_1 ez44_1 => ?_)
    refine lv_ior hx hb dX10_putNumber_45 ?_
    refine lv_topi (fun z45_1 ez45_1 => ?_)
    refine lv_bipush (v := 55) hx hb dX10_putNumber_46 (by decide) ?_
    refine lv_ior hx hb dX10_putNumber_48 ?_
    refine lv_topi (fun z48_1 ez48_1 => ?_)
    refine go_v (k1 := 0) (n1 := 0) (wr := []) [0, 1, 2] [] (rn_V (As := [.int z48_1]) (rest := []) (c_X10_put l D ct tl z48_1 tls o0 p0 x_tl_3 x_tl_4 o0r x_o0_1 g_o0r h_x_tl_3 (rg_w h_x_tl_4 (by decide)) h_x_o0_1 _) (cb_of (n := 1) hn mw_1319 mw_10 mw_1316 mhX10_put ⟨(Nat.le_of_ble_eq_true rfl), (Nat.le_of_ble_eq_true rfl)⟩) hx hb hml hown hn hK hSK hZ hS mw_1318 mw_s149 (ci := 10) (q0 := 0) rfl rfl rfl rfl hl.1 (Nat.le_of_ble_eq_true rfl) dX10_putNumber_49 ⟨(Nat.le_of_ble_eq_true rfl), (Nat.le_of_ble_eq_true rfl)⟩) hP hD hS hA rfl rfl (by decide) (by decide) (by decide) (Nat.le_of_ble_eq_true rfl) (Nat.le_of_ble_eq_true rfl) (fun u49_2 H locs hp49_3 hP hD hS => ?_)
    obtain ⟨y_tl_449_4, k_o0r49_5⟩ := u49_2
    obtain ⟨hp49_6, hp49_7⟩ := hp49_3
    have hp49_6 : rg y_tl_449_4 1 1000001 := hp49_6
    have hp49_7 : y_tl_449_4.toInt = x_tl_4.toInt + 1 := hp49_7
    have hP : va_P D vwCl [(tl, .inr (10, [.ref tls, .ref o0, .ref p0, .int x_tl_3, .int y_tl_449_4])), (o0, .inr (5, [.ref o0r, .int x_o0_1])), (o0r, .inl (ct 1, 60000, .inl k_o0r49_5))] _ := hP
    have hD : va_D A [(tl, .inr (10, [.ref tls, .ref o0, .ref p0, .int x_tl_3, .int y_tl_449_4])), (o0, .inr (5, [.ref o0r, .int x_o0_1])), (o0r, .inl (ct 1, 60000, .inl k_o0r49_5))] := hD
    refine lv_aload_n hx hb dX10_putNumber_52 rfl (lv_at hl 0 rfl) ?_
    refine lv_iload_n hx hb dX10_putNumber_53 rfl (lv_at hl 2 rfl) ?_
    refine lv_bipush (v := 20) hx hb dX10_putNumber_54 (by decide) ?_
    refine lv_ishl hx hb dX10_putNumber_56 ?_
    refine lv_topi (fun z56_1 ez56_1 => ?_)
    refine lv_iload_n hx hb dX10_putNumber_57 rfl (lv_at hl 1 rfl) ?_
    refine lv_bipush (v := 15) hx hb dX10_putNumber_58 (by decide) ?_
    refine lv_ishl hx hb dX10_putNumber_60 ?_
    refine lv_topi (fun z60_1 ez60_1 => ?_)
    refine lv_ior hx hb dX10_putNumber_61 ?_
    refine lv_topi (fun z61_1 ez61_1 => ?_)
    refine lv_iload_n hx hb dX10_putNumber_62 rfl (lv_at hl 1 rfl) ?_
    refine lv_bipush (v := 7) hx hb dX10_putNumber_63 (by decide) ?_
    refine lv_ishl hx hb dX10_putNumber_65 ?_
    refine lv_topi (fun z65_1 ez65_1 => ?_)
    refine lv_ior hx hb dX10_putNumber_66 ?_
    refine lv_topi (fun z66_1 ez66_1 => ?_)
    refine lv_bipush (v := 27) hx hb dX10_putNumber_67 (by decide) ?_
    refine lv_ior hx hb dX10_putNumber_69 ?_
    refine lv_topi (fun z69_1 ez69_1 => ?_)
    refine go_v (k1 := 0) (n1 := 0) (wr := []) [0, 1, 2] [] (rn_V (As := [.int z69_1]) (rest := []) (c_X10_put l D ct tl z69_1 tls o0 p0 x_tl_3 y_tl_449_4 o0r x_o0_1 k_o0r49_5 h_x_tl_3 (rg_of (show 0 ≤ y_tl_449_4.toInt ∧ y_tl_449_4.toInt ≤ 1000000 by have q0 := hp49_6.1; have q1 := h_x_tl_4.2; have q2 := hp49_7; omega)) h_x_o0_1 _) (cb_of (n := 1) hn mw_1319 mw_10 mw_1316 mhX10_put ⟨(Nat.le_of_ble_eq_true rfl), (Nat.le_of_ble_eq_true rfl)⟩) hx hb hml hown hn hK hSK hZ hS mw_1318 mw_s149 (ci := 10) (q0 := 0) rfl rfl rfl rfl hl.1 (Nat.le_of_ble_eq_true rfl) dX10_putNumber_70 ⟨(Nat.le_of_ble_eq_true rfl), (Nat.le_of_ble_eq_true rfl)⟩) hP hD hS hA rfl rfl (by decide) (by decide) (by decide) (Nat.le_of_ble_eq_true rfl) (Nat.le_of_ble_eq_true rfl) (fun u70_2 H locs hp70_3 hP hD hS => ?_)
    obtain ⟨y_tl_470_4, k_o0r70_5⟩ := u70_2
    obtain ⟨hp70_6, hp70_7⟩ := hp70_3
    have hp70_6 : rg y_tl_470_4 1 1000001 := hp70_6
    have hp70_7 : y_tl_470_4.toInt = y_tl_449_4.toInt + 1 := hp70_7
    have hP : va_P D vwCl [(tl, .inr (10, [.ref tls, .ref o0, .ref p0, .int x_tl_3, .int y_tl_470_4])), (o0, .inr (5, [.ref o0r, .int x_o0_1])), (o0r, .inl (ct 1, 60000, .inl k_o0r70_5))] _ := hP
    have hD : va_D A [(tl, .inr (10, [.ref tls, .ref o0, .ref p0, .int x_tl_3, .int y_tl_470_4])), (o0, .inr (5, [.ref o0r, .int x_o0_1])), (o0r, .inl (ct 1, 60000, .inl k_o0r70_5))] := hD
    exact endq_v hQ hx hb hr hlocks dX10_putNumber_73 (y_tl_470_4, k_o0r70_5) ⟨hp70_6, (show x_tl_4.toInt + 1 ≤ y_tl_470_4.toInt ∧ y_tl_470_4.toInt ≤ x_tl_4.toInt + 2 by have q0 := hp49_7; have q1 := hp70_7; omega), (show -2048 ≤ v1.toInt ∧ v1.toInt ≤ 2047 → y_tl_470_4.toInt = x_tl_4.toInt + 1 by have q0 := t4_2; have q1 := (show (-2048 : Int32).toInt = -2048 from by decide); omega), (show v1.toInt < -2048 ∨ 2047 < v1.toInt → y_tl_470_4.toInt = x_tl_4.toInt + 2 by have q0 := hp49_7; have q1 := hp70_7; omega)⟩ hP hD hS [0, 1, 2] rfl (by decide) rfl (Nat.le_of_ble_eq_true rfl) (Nat.le_of_ble_eq_true rfl)
  · have t4_2 := (i_nlt c4_1)
    have r4_3 : rg v1 (-2048) 2147483647 := rg_leB t4_2 (show rg ((-2048) : Int32) (-2048) (-2048) from rg_l (by decide)) (rg_any v1) (by decide)
    refine lv_iload_n hx hb dX10_putNumber_7 rfl (lv_at hl 2 rfl) ?_
    refine lv_sipush (v := 2047) hx hb dX10_putNumber_8 (by decide) ?_
    refine lv_icmp_gt (tgt := 31) hx hb dX10_putNumber_11 (by decide) (fun c11_1 => ?_) (fun c11_1 => ?_)
    · have t11_2 := (i_lt c11_1)
      have r11_3 : rg v1 2048 2147483647 := rg_ltB t11_2 (show rg (2047 : Int32) 2047 2047 from rg_l (by decide)) r4_3 (by decide)
      refine lv_aload_n hx hb dX10_putNumber_31 rfl (lv_at hl 0 rfl) ?_
      refine lv_iload_n hx hb dX10_putNumber_32 rfl (lv_at hl 2 rfl) ?_
      refine lv_sipush (v := 2048) hx hb dX10_putNumber_33 (by decide) ?_
      refine lv_iadd hx hb dX10_putNumber_36 ?_
      refine lv_topi (fun z36_1 ez36_1 => ?_)
      refine lv_sipush (v := (-4096)) hx hb dX10_putNumber_37 (by decide) ?_
      refine lv_iand hx hb dX10_putNumber_40 ?_
      refine lv_topi (fun z40_1 ez40_1 => ?_)
      refine lv_iload_n hx hb dX10_putNumber_41 rfl (lv_at hl 1 rfl) ?_
      refine lv_bipush (v := 7) hx hb dX10_putNumber_42 (by decide) ?_
      refine lv_ishl hx hb dX10_putNumber_44 ?_
      refine lv_topi (fun z44_1 ez44_1 => ?_)
      refine lv_ior hx hb dX10_putNumber_45 ?_
      refine lv_topi (fun z45_1 ez45_1 => ?_)
      refine lv_bipush (v := 55) hx hb dX10_putNumber_46 (by decide) ?_
      refine lv_ior hx hb dX10_putNumber_48 ?_
      refine lv_topi (fun z48_1 ez48_1 => ?_)
      refine go_v (k1 := 0) (n1 := 0) (wr := []) [0, 1, 2] [] (rn_V (As := [.int z48_1]) (rest := []) (c_X10_put l D ct tl z48_1 tls o0 p0 x_tl_3 x_tl_4 o0r x_o0_1 g_o0r h_x_tl_3 (rg_w h_x_tl_4 (by decide)) h_x_o0_1 _) (cb_of (n := 1) hn mw_1319 mw_10 mw_1316 mhX10_put ⟨(Nat.le_of_ble_eq_true rfl), (Nat.le_of_ble_eq_true rfl)⟩) hx hb hml hown hn hK hSK hZ hS mw_1318 mw_s149 (ci := 10) (q0 := 0) rfl rfl rfl rfl hl.1 (Nat.le_of_ble_eq_true rfl) dX10_putNumber_49 ⟨(Nat.le_of_ble_eq_true rfl), (Nat.le_of_ble_eq_true rfl)⟩) hP hD hS hA rfl rfl (by decide) (by decide) (by decide) (Nat.le_of_ble_eq_true rfl) (Nat.le_of_ble_eq_true rfl) (fun u49_2 H locs hp49_3 hP hD hS => ?_)
      obtain ⟨y_tl_449_4, k_o0r49_5⟩ := u49_2
      obtain ⟨hp49_6, hp49_7⟩ := hp49_3
      have hp49_6 : rg y_tl_449_4 1 1000001 := hp49_6
      have hp49_7 : y_tl_449_4.toInt = x_tl_4.toInt + 1 := hp49_7
      have hP : va_P D vwCl [(tl, .inr (10, [.ref tls, .ref o0, .ref p0, .int x_tl_3, .int y_tl_449_4])), (o0, .inr (5, [.ref o0r, .int x_o0_1])), (o0r, .inl (ct 1, 60000, .inl k_o0r49_5))] _ := hP
      have hD : va_D A [(tl, .inr (10, [.ref tls, .ref o0, .ref p0, .int x_tl_3, .int y_tl_449_4])), (o0, .inr (5, [.ref o0r, .int x_o0_1])), (o0r, .inl (ct 1, 60000, .inl k_o0r49_5))] := hD
      refine lv_aload_n hx hb dX10_putNumber_52 rfl (lv_at hl 0 rfl) ?_
      refine lv_iload_n hx hb dX10_putNumber_53 rfl (lv_at hl 2 rfl) ?_
      refine lv_bipush (v := 20) hx hb dX10_putNumber_54 (by decide) ?_
      refine lv_ishl hx hb dX10_putNumber_56 ?_
      refine lv_topi (fun z56_1 ez56_1 => ?_)
      refine lv_iload_n hx hb dX10_putNumber_57 rfl (lv_at hl 1 rfl) ?_
      refine lv_bipush (v := 15) hx hb dX10_putNumber_58 (by decide) ?_
      refine lv_ishl hx hb dX10_putNumber_60 ?_
      refine lv_topi (fun z60_1 ez60_1 => ?_)
      refine lv_ior hx hb dX10_putNumber_61 ?_
      refine lv_topi (fun z61_1 ez61_1 => ?_)
      refine lv_iload_n hx hb dX10_putNumber_62 rfl (lv_at hl 1 rfl) ?_
      refine lv_bipush (v := 7) hx hb dX10_putNumber_63 (by decide) ?_
      refine lv_ishl hx hb dX10_putNumber_65 ?_
      refine lv_topi (fun z65_1 ez65_1 => ?_)
      refine lv_ior hx hb dX10_putNumber_66 ?_
      refine lv_topi (fun z66_1 ez66_1 => ?_)
      refine lv_bipush (v := 27) hx hb dX10_putNumber_67 (by decide) ?_
      refine lv_ior hx hb dX10_putNumber_69 ?_
      refine lv_topi (fun z69_1 ez69_1 => ?_)
      refine go_v (k1 := 0) (n1 := 0) (wr := []) [0, 1, 2] [] (rn_V (As := [.int z69_1]) (rest := []) (c_X10_put l D ct tl z69_1 tls o0 p0 x_tl_3 y_tl_449_4 o0r x_o0_1 k_o0r49_5 h_x_tl_3 (rg_of (show 0 ≤ y_tl_449_4.toInt ∧ y_tl_449_4.toInt ≤ 1000000 by have q0 := hp49_6.1; have q1 := h_x_tl_4.2; have q2 := hp49_7; omega)) h_x_o0_1 _) (cb_of (n := 1) hn mw_1319 mw_10 mw_1316 mhX10_put ⟨(Nat.le_of_ble_eq_true rfl), (Nat.le_of_ble_eq_true rfl)⟩) hx hb hml hown hn hK hSK hZ hS mw_1318 mw_s149 (ci := 10) (q0 := 0) rfl rfl rfl rfl hl.1 (Nat.le_of_ble_eq_true rfl) dX10_putNumber_70 ⟨(Nat.le_of_ble_eq_true rfl), (Nat.le_of_ble_eq_true rfl)⟩) hP hD hS hA rfl rfl (by decide) (by decide) (by decide) (Nat.le_of_ble_eq_true rfl) (Nat.le_of_ble_eq_true rfl) (fun u70_2 H locs hp70_3 hP hD hS => ?_)
      obtain ⟨y_tl_470_4, k_o0r70_5⟩ := u70_2
      obtain ⟨hp70_6, hp70_7⟩ := hp70_3
      have hp70_6 : rg y_tl_470_4 1 1000001 := hp70_6
      have hp70_7 : y_tl_470_4.toInt = y_tl_449_4.toInt + 1 := hp70_7
      have hP : va_P D vwCl [(tl, .inr (10, [.ref tls, .ref o0, .ref p0, .int x_tl_3, .int y_tl_470_4])), (o0, .inr (5, [.ref o0r, .int x_o0_1])), (o0r, .inl (ct 1, 60000, .inl k_o0r70_5))] _ := hP
      have hD : va_D A [(tl, .inr (10, [.ref tls, .ref o0, .ref p0, .int x_tl_3, .int y_tl_470_4])), (o0, .inr (5, [.ref o0r, .int x_o0_1])), (o0r, .inl (ct 1, 60000, .inl k_o0r70_5))] := hD
      exact endq_v hQ hx hb hr hlocks dX10_putNumber_73 (y_tl_470_4, k_o0r70_5) ⟨hp70_6, (show x_tl_4.toInt + 1 ≤ y_tl_470_4.toInt ∧ y_tl_470_4.toInt ≤ x_tl_4.toInt + 2 by have q0 := hp49_7; have q1 := hp70_7; omega), (show -2048 ≤ v1.toInt ∧ v1.toInt ≤ 2047 → y_tl_470_4.toInt = x_tl_4.toInt + 1 by have q0 := t11_2; have q1 := (show (2047 : Int32).toInt = 2047 from by decide); omega), (show v1.toInt < -2048 ∨ 2047 < v1.toInt → y_tl_470_4.toInt = x_tl_4.toInt + 2 by have q0 := hp49_7; have q1 := hp70_7; omega)⟩ hP hD hS [0, 1, 2] rfl (by decide) rfl (Nat.le_of_ble_eq_true rfl) (Nat.le_of_ble_eq_true rfl)
    · have t11_2 := (i_nlt c11_1)
      have r11_3 : rg v1 (-2048) 2047 := rg_leA t11_2 r4_3 (show rg (2047 : Int32) 2047 2047 from rg_l (by decide)) (by decide)
      refine lv_aload_n hx hb dX10_putNumber_14 rfl (lv_at hl 0 rfl) ?_
      refine lv_iload_n hx hb dX10_putNumber_15 rfl (lv_at hl 2 rfl) ?_
      refine lv_bipush (v := 20) hx hb dX10_putNumber_16 (by decide) ?_
      refine lv_ishl hx hb dX10_putNumber_18 ?_
      refine lv_topi (fun z18_1 ez18_1 => ?_)
      refine lv_iload_n hx hb dX10_putNumber_19 rfl (lv_at hl 1 rfl) ?_
      refine lv_bipush (v := 7) hx hb dX10_putNumber_20 (by decide) ?_
      refine lv_ishl hx hb dX10_putNumber_22 ?_
      refine lv_topi (fun z22_1 ez22_1 => ?_)
      refine lv_ior hx hb dX10_putNumber_23 ?_
      refine lv_topi (fun z23_1 ez23_1 => ?_)
      refine lv_bipush (v := 19) hx hb dX10_putNumber_24 (by decide) ?_
      refine lv_ior hx hb dX10_putNumber_26 ?_
      refine lv_topi (fun z26_1 ez26_1 => ?_)
      refine go_v (k1 := 0) (n1 := 0) (wr := []) [0, 1, 2] [] (rn_V (As := [.int z26_1]) (rest := []) (c_X10_put l D ct tl z26_1 tls o0 p0 x_tl_3 x_tl_4 o0r x_o0_1 g_o0r h_x_tl_3 (rg_w h_x_tl_4 (by decide)) h_x_o0_1 _) (cb_of (n := 1) hn mw_1319 mw_10 mw_1316 mhX10_put ⟨(Nat.le_of_ble_eq_true rfl), (Nat.le_of_ble_eq_true rfl)⟩) hx hb hml hown hn hK hSK hZ hS mw_1318 mw_s149 (ci := 10) (q0 := 0) rfl rfl rfl rfl hl.1 (Nat.le_of_ble_eq_true rfl) dX10_putNumber_27 ⟨(Nat.le_of_ble_eq_true rfl), (Nat.le_of_ble_eq_true rfl)⟩) hP hD hS hA rfl rfl (by decide) (by decide) (by decide) (Nat.le_of_ble_eq_true rfl) (Nat.le_of_ble_eq_true rfl) (fun u27_2 H locs hp27_3 hP hD hS => ?_)
      obtain ⟨y_tl_427_4, k_o0r27_5⟩ := u27_2
      obtain ⟨hp27_6, hp27_7⟩ := hp27_3
      have hp27_6 : rg y_tl_427_4 1 1000001 := hp27_6
      have hp27_7 : y_tl_427_4.toInt = x_tl_4.toInt + 1 := hp27_7
      have hP : va_P D vwCl [(tl, .inr (10, [.ref tls, .ref o0, .ref p0, .int x_tl_3, .int y_tl_427_4])), (o0, .inr (5, [.ref o0r, .int x_o0_1])), (o0r, .inl (ct 1, 60000, .inl k_o0r27_5))] _ := hP
      have hD : va_D A [(tl, .inr (10, [.ref tls, .ref o0, .ref p0, .int x_tl_3, .int y_tl_427_4])), (o0, .inr (5, [.ref o0r, .int x_o0_1])), (o0r, .inl (ct 1, 60000, .inl k_o0r27_5))] := hD
      exact endq_v hQ hx hb hr hlocks dX10_putNumber_30 (y_tl_427_4, k_o0r27_5) ⟨hp27_6, (show x_tl_4.toInt + 1 ≤ y_tl_427_4.toInt ∧ y_tl_427_4.toInt ≤ x_tl_4.toInt + 2 by have q0 := hp27_7; omega), (show -2048 ≤ v1.toInt ∧ v1.toInt ≤ 2047 → y_tl_427_4.toInt = x_tl_4.toInt + 1 by have q0 := hp27_7; omega), (show v1.toInt < -2048 ∨ 2047 < v1.toInt → y_tl_427_4.toInt = x_tl_4.toInt + 2 by have q0 := r11_3.1; have q1 := r11_3.2; omega)⟩ hP hD hS [0, 1, 2] rfl (by decide) rfl (Nat.le_of_ble_eq_true rfl) (Nat.le_of_ble_eq_true rfl)
set_option maxHeartbeats 2000000 in
theorem c_X10_turnDivision_w (l : Launch) (D : va_G) (ct : Nat → ClassId) (tl : Nat) (v0 : Int32) (v1 : Int32) (v2 : Int32) (tls : Nat) (o0 : Nat) (p0 : Nat) (x_tl_3 : Int32) (x_tl_4 : Int32) (o0r : Nat) (x_o0_1 : Int32) (g_o0r : Nat → Int32) (h_v0 : rg v0 0 1) (h_x_tl_3 : rg x_tl_3 0 1) (h_x_tl_4 : rg x_tl_4 0 999900) (h_x_o0_1 : rg x_o0_1 0 60000) : KV (S := Int32 × (Nat → Int32)) l yX10_turnDivision cX10_turnDivision 5 none 3 67 D ct [.ref tl, .int v0, .int v1, .int v2] [(tl, .inr (10, [.ref tls, .ref o0, .ref p0, .int x_tl_3, .int x_tl_4])), (o0, .inr (5, [.ref o0r, .int x_o0_1])), (o0r, .inl (ct 1, 60000, .inl g_o0r))] 0 0 (fun (u : Int32 × (Nat → Int32)) => match u with | (y_tl_4, k_o0r) => rg y_tl_4 1 1000001 ∧ (x_tl_4.toInt + 4 ≤ y_tl_4.toInt ∧ y_tl_4.toInt ≤ x_tl_4.toInt + 5) ∧ (v0.toInt = 1 → y_tl_4.toInt = x_tl_4.toInt + 4) ∧ (v0.toInt = 0 → y_tl_4.toInt = x_tl_4.toInt + 5)) (fun (u : Int32 × (Nat → Int32)) => match u with | (y_tl_4, k_o0r) => [(tl, .inr (10, [.ref tls, .ref o0, .ref p0, .int x_tl_3, .int y_tl_4])), (o0, .inr (5, [.ref o0r, .int x_o0_1])), (o0r, .inl (ct 1, 60000, .inl k_o0r))]) := by
  refine KVq_of (by decide) (Nat.le_of_ble_eq_true rfl) (fun p e s m below meth c A Q C0 hA H locs hS hP hD hQ ls hl => ?_)
  obtain ⟨hx, hb, hr, hown, hin, hml, hlocks, hn, hK, hZ, hSK⟩ := C0
  have hl : lv_has ls 5 [(0, .ref tl), (1, .int v0), (2, .int v1), (3, .int v2)] := hl
  refine lv_iload_n hx hb dX10_turnDivision_0 rfl (lv_at hl 3 rfl) ?_
  refine lv_istore (lv' := [(4, .int v2), (0, .ref tl), (1, .int v0), (2, .int v1), (3, .int v2)]) hx hb dX10_turnDivision_1 hl (by decide) rfl (fun ls hl => ?_)
  refine lv_iload_n hx hb dX10_turnDivision_3 rfl (lv_at hl 2 rfl) ?_
  refine lv_if_ne (tgt := 22) hx hb dX10_turnDivision_4 (by decide) (fun c4_1 => ?_) (fun c4_1 => ?_)
  · have t4_2 := (i_ne c4_1)
    have r4_3 : rg v0 1 1 := rg_neAl t4_2 h_v0 (show rg (0 : Int32) 0 0 from rg_l (by decide)) (by decide)
    refine lv_aload_n hx hb dX10_turnDivision_22 rfl (lv_at hl 1 rfl) ?_
    refine lv_iconst (v := 0) hx hb dX10_turnDivision_23 (by decide) ?_
    refine lv_iload hx hb dX10_turnDivision_24 (lv_at hl 0 rfl) ?_
    refine lv_iconst (v := 0) hx hb dX10_turnDivision_26 (by decide) ?_
    refine lv_bipush (v := 12) hx hb dX10_turnDivision_27 (by decide) ?_
    refine go_v (k1 := 0) (n1 := 0) (wr := []) [0, 1, 2] [] (rn_V (As := [.int 0, .int v2, .int 0, .int 12]) (rest := []) (c_X10_putBranch l D ct tl (0 : Int32) v2 (0 : Int32) (12 : Int32) tls o0 p0 x_tl_3 x_tl_4 o0r x_o0_1 g_o0r h_x_tl_3 (rg_w h_x_tl_4 (by decide)) h_x_o0_1 _) (cb_of (n := 4) hn mw_1345 mw_10 mw_1342 mhX10_putBranch ⟨(Nat.le_of_ble_eq_true rfl), (Nat.le_of_ble_eq_true rfl)⟩) hx hb hml hown hn hK hSK hZ hS mw_1344 mw_s155 (ci := 10) (q0 := 0) rfl rfl rfl rfl hl.1 (Nat.le_of_ble_eq_true rfl) dX10_turnDivision_29 ⟨(Nat.le_of_ble_eq_true rfl), (Nat.le_of_ble_eq_true rfl)⟩) hP hD hS hA rfl rfl (by decide) (by decide) (by decide) (Nat.le_of_ble_eq_true rfl) (Nat.le_of_ble_eq_true rfl) (fun u29_2 H locs hp29_3 hP hD hS => ?_)
    obtain ⟨y_tl_429_4, k_o0r29_5⟩ := u29_2
    obtain ⟨hp29_6, hp29_7⟩ := hp29_3
    have hp29_6 : rg y_tl_429_4 1 1000001 := hp29_6
    have hp29_7 : y_tl_429_4.toInt = x_tl_4.toInt + 1 := hp29_7
    have hP : va_P D vwCl [(tl, .inr (10, [.ref tls, .ref o0, .ref p0, .int x_tl_3, .int y_tl_429_4])), (o0, .inr (5, [.ref o0r, .int x_o0_1])), (o0r, .inl (ct 1, 60000, .inl k_o0r29_5))] _ := hP
    have hD : va_D A [(tl, .inr (10, [.ref tls, .ref o0, .ref p0, .int x_tl_3, .int y_tl_429_4])), (o0, .inr (5, [.ref o0r, .int x_o0_1])), (o0r, .inl (ct 1, 60000, .inl k_o0r29_5))] := hD
    refine lv_aload_n hx hb dX10_turnDivision_32 rfl (lv_at hl 1 rfl) ?_
    refine lv_iload_n hx hb dX10_turnDivision_33 rfl (lv_at hl 2 rfl) ?_
    refine lv_if_eq (tgt := 42) hx hb dX10_turnDivision_34 (by decide) (fun c34_1 => ?_) (fun c34_1 => ?_)
    · exact absurd (i_eq c34_1) (rg_eqX r4_3 (show rg (0 : Int32) 0 0 from rg_l (by decide)) (by decide))
    · have t34_2 := (i_ne c34_1)
      refine lv_bipush (v := 51) hx hb dX10_turnDivision_37 (by decide) ?_
      refine lv_goto (tgt := 44) hx hb dX10_turnDivision_39 (by decide) ?_
      refine lv_iconst (v := 1) hx hb dX10_turnDivision_44 (by decide) ?_
      refine lv_iconst (v := 5) hx hb dX10_turnDivision_45 (by decide) ?_
      refine lv_iload_n hx hb dX10_turnDivision_46 rfl (lv_at hl 3 rfl) ?_
      refine lv_iload_n hx hb dX10_turnDivision_47 rfl (lv_at hl 3 rfl) ?_
      refine lv_iload hx hb dX10_turnDivision_48 (lv_at hl 0 rfl) ?_
      refine go_v (k1 := 0) (n1 := 0) (wr := []) [0, 1, 2] [] (rn_V (As := [.int 51, .int 1, .int 5, .int v1, .int v1, .int v2]) (rest := []) (c_X10_putOp l D ct tl (51 : Int32) (1 : Int32) (5 : Int32) v1 v1 v2 tls o0 p0 x_tl_3 y_tl_429_4 o0r x_o0_1 k_o0r29_5 h_x_tl_3 (rg_of (show 0 ≤ y_tl_429_4.toInt ∧ y_tl_429_4.toInt ≤ 999990 by have q0 := hp29_6.1; have q1 := h_x_tl_4.2; have q2 := hp29_7; omega)) h_x_o0_1 _) (cb_of (n := 6) hn mw_1329 mw_10 mw_1326 mhX10_putOp ⟨(Nat.le_of_ble_eq_true rfl), (Nat.le_of_ble_eq_true rfl)⟩) hx hb hml hown hn hK hSK hZ hS mw_1328 mw_s151 (ci := 10) (q0 := 0) rfl rfl rfl rfl hl.1 (Nat.le_of_ble_eq_true rfl) dX10_turnDivision_50 ⟨(Nat.le_of_ble_eq_true rfl), (Nat.le_of_ble_eq_true rfl)⟩) hP hD hS hA rfl rfl (by decide) (by decide) (by decide) (Nat.le_of_ble_eq_true rfl) (Nat.le_of_ble_eq_true rfl) (fun u50_2 H locs hp50_3 hP hD hS => ?_)
      obtain ⟨y_tl_450_4, k_o0r50_5⟩ := u50_2
      obtain ⟨hp50_6, hp50_7⟩ := hp50_3
      have hp50_6 : rg y_tl_450_4 1 1000001 := hp50_6
      have hp50_7 : y_tl_450_4.toInt = y_tl_429_4.toInt + 1 := hp50_7
      have hP : va_P D vwCl [(tl, .inr (10, [.ref tls, .ref o0, .ref p0, .int x_tl_3, .int y_tl_450_4])), (o0, .inr (5, [.ref o0r, .int x_o0_1])), (o0r, .inl (ct 1, 60000, .inl k_o0r50_5))] _ := hP
      have hD : va_D A [(tl, .inr (10, [.ref tls, .ref o0, .ref p0, .int x_tl_3, .int y_tl_450_4])), (o0, .inr (5, [.ref o0r, .int x_o0_1])), (o0r, .inl (ct 1, 60000, .inl k_o0r50_5))] := hD
      refine lv_aload_n hx hb dX10_turnDivision_53 rfl (lv_at hl 1 rfl) ?_
      refine lv_bipush (v := 8) hx hb dX10_turnDivision_54 (by decide) ?_
      refine go_v (k1 := 0) (n1 := 0) (wr := []) [0, 1, 2] [] (rn_V (As := [.int 8]) (rest := []) (c_X10_putGoing l D ct tl (8 : Int32) tls o0 p0 x_tl_3 y_tl_450_4 o0r x_o0_1 k_o0r50_5 h_x_tl_3 (rg_of (show 0 ≤ y_tl_450_4.toInt ∧ y_tl_450_4.toInt ≤ 999990 by have q0 := hp29_6.1; have q1 := h_x_tl_4.2; have q2 := hp29_7; have q3 := hp50_7; omega)) h_x_o0_1 _) (cb_of (n := 1) hn mw_1349 mw_10 mw_1346 mhX10_putGoing ⟨(Nat.le_of_ble_eq_true rfl), (Nat.le_of_ble_eq_true rfl)⟩) hx hb hml hown hn hK hSK hZ hS mw_1348 mw_s156 (ci := 10) (q0 := 0) rfl rfl rfl rfl hl.1 (Nat.le_of_ble_eq_true rfl) dX10_turnDivision_56 ⟨(Nat.le_of_ble_eq_true rfl), (Nat.le_of_ble_eq_true rfl)⟩) hP hD hS hA rfl rfl (by decide) (by decide) (by decide) (Nat.le_of_ble_eq_true rfl) (Nat.le_of_ble_eq_true rfl) (fun u56_2 H locs hp56_3 hP hD hS => ?_)
      obtain ⟨y_tl_456_4, k_o0r56_5⟩ := u56_2
      obtain ⟨hp56_6, hp56_7⟩ := hp56_3
      have hp56_6 : rg y_tl_456_4 1 1000001 := hp56_6
      have hp56_7 : y_tl_456_4.toInt = y_tl_450_4.toInt + 1 := hp56_7
      have hP : va_P D vwCl [(tl, .inr (10, [.ref tls, .ref o0, .ref p0, .int x_tl_3, .int y_tl_456_4])), (o0, .inr (5, [.ref o0r, .int x_o0_1])), (o0r, .inl (ct 1, 60000, .inl k_o0r56_5))] _ := hP
      have hD : va_D A [(tl, .inr (10, [.ref tls, .ref o0, .ref p0, .int x_tl_3, .int y_tl_456_4])), (o0, .inr (5, [.ref o0r, .int x_o0_1])), (o0r, .inl (ct 1, 60000, .inl k_o0r56_5))] := hD
      refine lv_aload_n hx hb dX10_turnDivision_59 rfl (lv_at hl 1 rfl) ?_
      refine lv_iload_n hx hb dX10_turnDivision_60 rfl (lv_at hl 3 rfl) ?_
      refine lv_iconst (v := 0) hx hb dX10_turnDivision_61 (by decide) ?_
      refine lv_iconst (v := 0) hx hb dX10_turnDivision_62 (by decide) ?_
      refine go_v (k1 := 0) (n1 := 0) (wr := []) [0, 1, 2] [] (rn_V (As := [.int v1, .int 0, .int 0]) (rest := []) (c_X10_putAdd l D ct tl v1 (0 : Int32) (0 : Int32) tls o0 p0 x_tl_3 y_tl_456_4 o0r x_o0_1 k_o0r56_5 h_x_tl_3 (rg_of (show 0 ≤ y_tl_456_4.toInt ∧ y_tl_456_4.toInt ≤ 999990 by have q0 := hp50_6.1; have q1 := h_x_tl_4.2; have q2 := hp29_7; have q3 := hp50_7; have q4 := hp56_7; omega)) h_x_o0_1 _) (cb_of (n := 3) hn mw_1325 mw_10 mw_1322 mhX10_putAdd ⟨(Nat.le_of_ble_eq_true rfl), (Nat.le_of_ble_eq_true rfl)⟩) hx hb hml hown hn hK hSK hZ hS mw_1324 mw_s150 (ci := 10) (q0 := 0) rfl rfl rfl rfl hl.1 (Nat.le_of_ble_eq_true rfl) dX10_turnDivision_63 ⟨(Nat.le_of_ble_eq_true rfl), (Nat.le_of_ble_eq_true rfl)⟩) hP hD hS hA rfl rfl (by decide) (by decide) (by decide) (Nat.le_of_ble_eq_true rfl) (Nat.le_of_ble_eq_true rfl) (fun u63_2 H locs hp63_3 hP hD hS => ?_)
      obtain ⟨y_tl_463_4, k_o0r63_5⟩ := u63_2
      obtain ⟨hp63_6, hp63_7⟩ := hp63_3
      have hp63_6 : rg y_tl_463_4 1 1000001 := hp63_6
      have hp63_7 : y_tl_463_4.toInt = y_tl_456_4.toInt + 1 := hp63_7
      have hP : va_P D vwCl [(tl, .inr (10, [.ref tls, .ref o0, .ref p0, .int x_tl_3, .int y_tl_463_4])), (o0, .inr (5, [.ref o0r, .int x_o0_1])), (o0r, .inl (ct 1, 60000, .inl k_o0r63_5))] _ := hP
      have hD : va_D A [(tl, .inr (10, [.ref tls, .ref o0, .ref p0, .int x_tl_3, .int y_tl_463_4])), (o0, .inr (5, [.ref o0r, .int x_o0_1])), (o0r, .inl (ct 1, 60000, .inl k_o0r63_5))] := hD
      exact endq_v hQ hx hb hr hlocks dX10_turnDivision_66 (y_tl_463_4, k_o0r63_5) ⟨hp63_6, (show x_tl_4.toInt + 4 ≤ y_tl_463_4.toInt ∧ y_tl_463_4.toInt ≤ x_tl_4.toInt + 5 by have q0 := hp29_7; have q1 := hp50_7; have q2 := hp56_7; have q3 := hp63_7; omega), (show v0.toInt = 1 → y_tl_463_4.toInt = x_tl_4.toInt + 4 by have q0 := hp29_7; have q1 := hp50_7; have q2 := hp56_7; have q3 := hp63_7; omega), (show v0.toInt = 0 → y_tl_463_4.toInt = x_tl_4.toInt + 5 by have q0 := r4_3.1; omega)⟩ hP hD hS [0, 1, 2] rfl (by decide) rfl (Nat.le_of_ble_eq_true rfl) (Nat.le_of_ble_eq_true rfl)
  · have t4_2 := (i_eq c4_1)
    have r4_3 : rg v0 0 0 := rg_eqA t4_2 h_v0 (show rg (0 : Int32) 0 0 from rg_l (by decide)) (by decide)
    refine lv_aload_n hx hb dX10_turnDivision_7 rfl (lv_at hl 1 rfl) ?_
    refine lv_bipush (v := 27) hx hb dX10_turnDivision_8 (by decide) ?_
    refine lv_iconst (v := 0) hx hb dX10_turnDivision_10 (by decide) ?_
    refine lv_bipush (v := 6) hx hb dX10_turnDivision_11 (by decide) ?_
    refine lv_iload_n hx hb dX10_turnDivision_13 rfl (lv_at hl 4 rfl) ?_
    refine lv_iconst (v := 0) hx hb dX10_turnDivision_14 (by decide) ?_
    refine go_v (k1 := 0) (n1 := 0) (wr := []) [0, 1, 2] [] (rn_V (As := [.int 27, .int 0, .int 6, .int v2, .int 0]) (rest := []) (c_X10_putImm l D ct tl (27 : Int32) (0 : Int32) (6 : Int32) v2 (0 : Int32) tls o0 p0 x_tl_3 x_tl_4 o0r x_o0_1 g_o0r h_x_tl_3 (rg_w h_x_tl_4 (by decide)) h_x_o0_1 _) (cb_of (n := 5) hn mw_1341 mw_10 mw_1338 mhX10_putImm ⟨(Nat.le_of_ble_eq_true rfl), (Nat.le_of_ble_eq_true rfl)⟩) hx hb hml hown hn hK hSK hZ hS mw_1340 mw_s154 (ci := 10) (q0 := 0) rfl rfl rfl rfl hl.1 (Nat.le_of_ble_eq_true rfl) dX10_turnDivision_15 ⟨(Nat.le_of_ble_eq_true rfl), (Nat.le_of_ble_eq_true rfl)⟩) hP hD hS hA rfl rfl (by decide) (by decide) (by decide) (Nat.le_of_ble_eq_true rfl) (Nat.le_of_ble_eq_true rfl) (fun u15_2 H locs hp15_3 hP hD hS => ?_)
    obtain ⟨y_tl_415_4, k_o0r15_5⟩ := u15_2
    obtain ⟨hp15_6, hp15_7⟩ := hp15_3
    have hp15_6 : rg y_tl_415_4 1 1000001 := hp15_6
    have hp15_7 : y_tl_415_4.toInt = x_tl_4.toInt + 1 := hp15_7
    have hP : va_P D vwCl [(tl, .inr (10, [.ref tls, .ref o0, .ref p0, .int x_tl_3, .int y_tl_415_4])), (o0, .inr (5, [.ref o0r, .int x_o0_1])), (o0r, .inl (ct 1, 60000, .inl k_o0r15_5))] _ := hP
    have hD : va_D A [(tl, .inr (10, [.ref tls, .ref o0, .ref p0, .int x_tl_3, .int y_tl_415_4])), (o0, .inr (5, [.ref o0r, .int x_o0_1])), (o0r, .inl (ct 1, 60000, .inl k_o0r15_5))] := hD
    refine lv_bipush (v := 6) hx hb dX10_turnDivision_18 (by decide) ?_
    refine lv_istore (lv' := [(4, .int 6), (0, .ref tl), (1, .int v0), (2, .int v1), (3, .int v2)]) hx hb dX10_turnDivision_20 hl (by decide) rfl (fun ls hl => ?_)
    refine lv_aload_n hx hb dX10_turnDivision_22 rfl (lv_at hl 1 rfl) ?_
    refine lv_iconst (v := 0) hx hb dX10_turnDivision_23 (by decide) ?_
    refine lv_iload hx hb dX10_turnDivision_24 (lv_at hl 0 rfl) ?_
    refine lv_iconst (v := 0) hx hb dX10_turnDivision_26 (by decide) ?_
    refine lv_bipush (v := 12) hx hb dX10_turnDivision_27 (by decide) ?_
    refine go_v (k1 := 0) (n1 := 0) (wr := []) [0, 1, 2] [] (rn_V (As := [.int 0, .int 6, .int 0, .int 12]) (rest := []) (c_X10_putBranch l D ct tl (0 : Int32) (6 : Int32) (0 : Int32) (12 : Int32) tls o0 p0 x_tl_3 y_tl_415_4 o0r x_o0_1 k_o0r15_5 h_x_tl_3 (rg_of (show 0 ≤ y_tl_415_4.toInt ∧ y_tl_415_4.toInt ≤ 999990 by have q0 := hp15_6.1; have q1 := h_x_tl_4.2; have q2 := hp15_7; omega)) h_x_o0_1 _) (cb_of (n := 4) hn mw_1345 mw_10 mw_1342 mhX10_putBranch ⟨(Nat.le_of_ble_eq_true rfl), (Nat.le_of_ble_eq_true rfl)⟩) hx hb hml hown hn hK hSK hZ hS mw_1344 mw_s155 (ci := 10) (q0 := 0) rfl rfl rfl rfl hl.1 (Nat.le_of_ble_eq_true rfl) dX10_turnDivision_29 ⟨(Nat.le_of_ble_eq_true rfl), (Nat.le_of_ble_eq_true rfl)⟩) hP hD hS hA rfl rfl (by decide) (by decide) (by decide) (Nat.le_of_ble_eq_true rfl) (Nat.le_of_ble_eq_true rfl) (fun u29_2 H locs hp29_3 hP hD hS => ?_)
    obtain ⟨y_tl_429_4, k_o0r29_5⟩ := u29_2
    obtain ⟨hp29_6, hp29_7⟩ := hp29_3
    have hp29_6 : rg y_tl_429_4 1 1000001 := hp29_6
    have hp29_7 : y_tl_429_4.toInt = y_tl_415_4.toInt + 1 := hp29_7
    have hP : va_P D vwCl [(tl, .inr (10, [.ref tls, .ref o0, .ref p0, .int x_tl_3, .int y_tl_429_4])), (o0, .inr (5, [.ref o0r, .int x_o0_1])), (o0r, .inl (ct 1, 60000, .inl k_o0r29_5))] _ := hP
    have hD : va_D A [(tl, .inr (10, [.ref tls, .ref o0, .ref p0, .int x_tl_3, .int y_tl_429_4])), (o0, .inr (5, [.ref o0r, .int x_o0_1])), (o0r, .inl (ct 1, 60000, .inl k_o0r29_5))] := hD
    refine lv_aload_n hx hb dX10_turnDivision_32 rfl (lv_at hl 1 rfl) ?_
    refine lv_iload_n hx hb dX10_turnDivision_33 rfl (lv_at hl 2 rfl) ?_
    refine lv_if_eq (tgt := 42) hx hb dX10_turnDivision_34 (by decide) (fun c34_1 => ?_) (fun c34_1 => ?_)
    · have t34_2 := (i_eq c34_1)
      refine lv_bipush (v := 59) hx hb dX10_turnDivision_42 (by decide) ?_
      refine lv_iconst (v := 1) hx hb dX10_turnDivision_44 (by decide) ?_
      refine lv_iconst (v := 5) hx hb dX10_turnDivision_45 (by decide) ?_
      refine lv_iload_n hx hb dX10_turnDivision_46 rfl (lv_at hl 3 rfl) ?_
      refine lv_iload_n hx hb dX10_turnDivision_47 rfl (lv_at hl 3 rfl) ?_
      refine lv_iload hx hb dX10_turnDivision_48 (lv_at hl 0 rfl) ?_
      refine go_v (k1 := 0) (n1 := 0) (wr := []) [0, 1, 2] [] (rn_V (As := [.int 59, .int 1, .int 5, .int v1, .int v1, .int 6]) (rest := []) (c_X10_putOp l D ct tl (59 : Int32) (1 : Int32) (5 : Int32) v1 v1 (6 : Int32) tls o0 p0 x_tl_3 y_tl_429_4 o0r x_o0_1 k_o0r29_5 h_x_tl_3 (rg_of (show 0 ≤ y_tl_429_4.toInt ∧ y_tl_429_4.toInt ≤ 999990 by have q0 := hp15_6.1; have q1 := h_x_tl_4.2; have q2 := hp15_7; have q3 := hp29_7; omega)) h_x_o0_1 _) (cb_of (n := 6) hn mw_1329 mw_10 mw_1326 mhX10_putOp ⟨(Nat.le_of_ble_eq_true rfl), (Nat.le_of_ble_eq_true rfl)⟩) hx hb hml hown hn hK hSK hZ hS mw_1328 mw_s151 (ci := 10) (q0 := 0) rfl rfl rfl rfl hl.1 (Nat.le_of_ble_eq_true rfl) dX10_turnDivision_50 ⟨(Nat.le_of_ble_eq_true rfl), (Nat.le_of_ble_eq_true rfl)⟩) hP hD hS hA rfl rfl (by decide) (by decide) (by decide) (Nat.le_of_ble_eq_true rfl) (Nat.le_of_ble_eq_true rfl) (fun u50_2 H locs hp50_3 hP hD hS => ?_)
      obtain ⟨y_tl_450_4, k_o0r50_5⟩ := u50_2
      obtain ⟨hp50_6, hp50_7⟩ := hp50_3
      have hp50_6 : rg y_tl_450_4 1 1000001 := hp50_6
      have hp50_7 : y_tl_450_4.toInt = y_tl_429_4.toInt + 1 := hp50_7
      have hP : va_P D vwCl [(tl, .inr (10, [.ref tls, .ref o0, .ref p0, .int x_tl_3, .int y_tl_450_4])), (o0, .inr (5, [.ref o0r, .int x_o0_1])), (o0r, .inl (ct 1, 60000, .inl k_o0r50_5))] _ := hP
      have hD : va_D A [(tl, .inr (10, [.ref tls, .ref o0, .ref p0, .int x_tl_3, .int y_tl_450_4])), (o0, .inr (5, [.ref o0r, .int x_o0_1])), (o0r, .inl (ct 1, 60000, .inl k_o0r50_5))] := hD
      refine lv_aload_n hx hb dX10_turnDivision_53 rfl (lv_at hl 1 rfl) ?_
      refine lv_bipush (v := 8) hx hb dX10_turnDivision_54 (by decide) ?_
      refine go_v (k1 := 0) (n1 := 0) (wr := []) [0, 1, 2] [] (rn_V (As := [.int 8]) (rest := []) (c_X10_putGoing l D ct tl (8 : Int32) tls o0 p0 x_tl_3 y_tl_450_4 o0r x_o0_1 k_o0r50_5 h_x_tl_3 (rg_of (show 0 ≤ y_tl_450_4.toInt ∧ y_tl_450_4.toInt ≤ 999990 by have q0 := hp29_6.1; have q1 := h_x_tl_4.2; have q2 := hp15_7; have q3 := hp29_7; have q4 := hp50_7; omega)) h_x_o0_1 _) (cb_of (n := 1) hn mw_1349 mw_10 mw_1346 mhX10_putGoing ⟨(Nat.le_of_ble_eq_true rfl), (Nat.le_of_ble_eq_true rfl)⟩) hx hb hml hown hn hK hSK hZ hS mw_1348 mw_s156 (ci := 10) (q0 := 0) rfl rfl rfl rfl hl.1 (Nat.le_of_ble_eq_true rfl) dX10_turnDivision_56 ⟨(Nat.le_of_ble_eq_true rfl), (Nat.le_of_ble_eq_true rfl)⟩) hP hD hS hA rfl rfl (by decide) (by decide) (by decide) (Nat.le_of_ble_eq_true rfl) (Nat.le_of_ble_eq_true rfl) (fun u56_2 H locs hp56_3 hP hD hS => ?_)
      obtain ⟨y_tl_456_4, k_o0r56_5⟩ := u56_2
      obtain ⟨hp56_6, hp56_7⟩ := hp56_3
      have hp56_6 : rg y_tl_456_4 1 1000001 := hp56_6
      have hp56_7 : y_tl_456_4.toInt = y_tl_450_4.toInt + 1 := hp56_7
      have hP : va_P D vwCl [(tl, .inr (10, [.ref tls, .ref o0, .ref p0, .int x_tl_3, .int y_tl_456_4])), (o0, .inr (5, [.ref o0r, .int x_o0_1])), (o0r, .inl (ct 1, 60000, .inl k_o0r56_5))] _ := hP
      have hD : va_D A [(tl, .inr (10, [.ref tls, .ref o0, .ref p0, .int x_tl_3, .int y_tl_456_4])), (o0, .inr (5, [.ref o0r, .int x_o0_1])), (o0r, .inl (ct 1, 60000, .inl k_o0r56_5))] := hD
      refine lv_aload_n hx hb dX10_turnDivision_59 rfl (lv_at hl 1 rfl) ?_
      refine lv_iload_n hx hb dX10_turnDivision_60 rfl (lv_at hl 3 rfl) ?_
      refine lv_iconst (v := 0) hx hb dX10_turnDivision_61 (by decide) ?_
      refine lv_iconst (v := 0) hx hb dX10_turnDivision_62 (by decide) ?_
      refine go_v (k1 := 0) (n1 := 0) (wr := []) [0, 1, 2] [] (rn_V (As := [.int v1, .int 0, .int 0]) (rest := []) (c_X10_putAdd l D ct tl v1 (0 : Int32) (0 : Int32) tls o0 p0 x_tl_3 y_tl_456_4 o0r x_o0_1 k_o0r56_5 h_x_tl_3 (rg_of (show 0 ≤ y_tl_456_4.toInt ∧ y_tl_456_4.toInt ≤ 999990 by have q0 := hp50_6.1; have q1 := h_x_tl_4.2; have q2 := hp15_7; have q3 := hp29_7; have q4 := hp50_7; have q5 := hp56_7; omega)) h_x_o0_1 _) (cb_of (n := 3) hn mw_1325 mw_10 mw_1322 mhX10_putAdd ⟨(Nat.le_of_ble_eq_true rfl), (Nat.le_of_ble_eq_true rfl)⟩) hx hb hml hown hn hK hSK hZ hS mw_1324 mw_s150 (ci := 10) (q0 := 0) rfl rfl rfl rfl hl.1 (Nat.le_of_ble_eq_true rfl) dX10_turnDivision_63 ⟨(Nat.le_of_ble_eq_true rfl), (Nat.le_of_ble_eq_true rfl)⟩) hP hD hS hA rfl rfl (by decide) (by decide) (by decide) (Nat.le_of_ble_eq_true rfl) (Nat.le_of_ble_eq_true rfl) (fun u63_2 H locs hp63_3 hP hD hS => ?_)
      obtain ⟨y_tl_463_4, k_o0r63_5⟩ := u63_2
      obtain ⟨hp63_6, hp63_7⟩ := hp63_3
      have hp63_6 : rg y_tl_463_4 1 1000001 := hp63_6
      have hp63_7 : y_tl_463_4.toInt = y_tl_456_4.toInt + 1 := hp63_7
      have hP : va_P D vwCl [(tl, .inr (10, [.ref tls, .ref o0, .ref p0, .int x_tl_3, .int y_tl_463_4])), (o0, .inr (5, [.ref o0r, .int x_o0_1])), (o0r, .inl (ct 1, 60000, .inl k_o0r63_5))] _ := hP
      have hD : va_D A [(tl, .inr (10, [.ref tls, .ref o0, .ref p0, .int x_tl_3, .int y_tl_463_4])), (o0, .inr (5, [.ref o0r, .int x_o0_1])), (o0r, .inl (ct 1, 60000, .inl k_o0r63_5))] := hD
      exact endq_v hQ hx hb hr hlocks dX10_turnDivision_66 (y_tl_463_4, k_o0r63_5) ⟨hp63_6, (show x_tl_4.toInt + 4 ≤ y_tl_463_4.toInt ∧ y_tl_463_4.toInt ≤ x_tl_4.toInt + 5 by have q0 := hp15_7; have q1 := hp29_7; have q2 := hp50_7; have q3 := hp56_7; have q4 := hp63_7; omega), (show v0.toInt = 1 → y_tl_463_4.toInt = x_tl_4.toInt + 4 by have q0 := r4_3.2; omega), (show v0.toInt = 0 → y_tl_463_4.toInt = x_tl_4.toInt + 5 by have q0 := hp15_7; have q1 := hp29_7; have q2 := hp50_7; have q3 := hp56_7; have q4 := hp63_7; omega)⟩ hP hD hS [0, 1, 2] rfl (by decide) rfl (Nat.le_of_ble_eq_true rfl) (Nat.le_of_ble_eq_true rfl)
    · exact absurd (i_ne c34_1) (rg_neX r4_3 (show rg (0 : Int32) 0 0 from rg_l (by decide)) (by decide))
set_option maxHeartbeats 2000000 in
theorem c_X10_putPassing_w (l : Launch) (D : va_G) (ct : Nat → ClassId) (tl : Nat) (v0 : Int32) (v1 : Int32) (v2 : Int32) (tls : Nat) (o0 : Nat) (p0 : Nat) (x_tl_3 : Int32) (x_tl_4 : Int32) (o0r : Nat) (x_o0_1 : Int32) (g_o0r : Nat → Int32) (h_x_tl_3 : rg x_tl_3 0 1) (h_x_tl_4 : rg x_tl_4 0 999900) (h_x_o0_1 : rg x_o0_1 0 60000) : KV (S := Int32 × (Nat → Int32)) l yX10_putPassing cX10_putPassing 4 none 3 67 D ct [.ref tl, .int v0, .int v1, .int v2] [(tl, .inr (10, [.ref tls, .ref o0, .ref p0, .int x_tl_3, .int x_tl_4])), (o0, .inr (5, [.ref o0r, .int x_o0_1])), (o0r, .inl (ct 1, 60000, .inl g_o0r))] 0 0 (fun (u : Int32 × (Nat → Int32)) => match u with | (y_tl_4, k_o0r) => rg y_tl_4 1 1000001 ∧ (x_tl_4.toInt + 1 ≤ y_tl_4.toInt ∧ y_tl_4.toInt ≤ x_tl_4.toInt + 2) ∧ (v0.toInt = 4 → y_tl_4.toInt = x_tl_4.toInt + 2) ∧ (v0.toInt ≠ 4 → y_tl_4.toInt = x_tl_4.toInt + 1)) (fun (u : Int32 × (Nat → Int32)) => match u with | (y_tl_4, k_o0r) => [(tl, .inr (10, [.ref tls, .ref o0, .ref p0, .int x_tl_3, .int y_tl_4])), (o0, .inr (5, [.ref o0r, .int x_o0_1])), (o0r, .inl (ct 1, 60000, .inl k_o0r))]) := by
  refine KVq_of (by decide) (Nat.le_of_ble_eq_true rfl) (fun p e s m below meth c A Q C0 hA H locs hS hP hD hQ ls hl => ?_)
  obtain ⟨hx, hb, hr, hown, hin, hml, hlocks, hn, hK, hZ, hSK⟩ := C0
  have hl : lv_has ls 4 [(0, .ref tl), (1, .int v0), (2, .int v1), (3, .int v2)] := hl
  refine lv_iload_n hx hb dX10_putPassing_0 rfl (lv_at hl 1 rfl) ?_
  by_cases h1_101 : v0.toInt = 1
  · have r1_102 : rg v0 1 1 := rg_at h1_101
    have hl1_103 := FF.mk h1_101
    refine lv_tableIn (off := 89) (tgt := 90) hx hb dX10_putPassing_1 (by rw [h1_101]; decide) (by rw [h1_101]; decide) (by rw [h1_101]; rfl) (by decide) ?_
    refine lv_aload_n hx hb dX10_putPassing_90 rfl (lv_at hl 0 rfl) ?_
    refine lv_iconst (v := 1) hx hb dX10_putPassing_91 (by decide) ?_
    refine lv_iload_n hx hb dX10_putPassing_92 rfl (lv_at hl 2 rfl) ?_
    refine lv_iload_n hx hb dX10_putPassing_93 rfl (lv_at hl 3 rfl) ?_
    refine lv_bipush (v := 8) hx hb dX10_putPassing_94 (by decide) ?_
    refine go_v (k1 := 0) (n1 := 0) (wr := []) [0, 1, 2] [] (rn_V (As := [.int 1, .int v1, .int v2, .int 8]) (rest := []) (c_X10_putBranch l D ct tl (1 : Int32) v1 v2 (8 : Int32) tls o0 p0 x_tl_3 x_tl_4 o0r x_o0_1 g_o0r h_x_tl_3 (rg_w h_x_tl_4 (by decide)) h_x_o0_1 _) (cb_of (n := 4) hn mw_1345 mw_10 mw_1342 mhX10_putBranch ⟨(Nat.le_of_ble_eq_true rfl), (Nat.le_of_ble_eq_true rfl)⟩) hx hb hml hown hn hK hSK hZ hS mw_1344 mw_s155 (ci := 10) (q0 := 0) rfl rfl rfl rfl hl.1 (Nat.le_of_ble_eq_true rfl) dX10_putPassing_96 ⟨(Nat.le_of_ble_eq_true rfl), (Nat.le_of_ble_eq_true rfl)⟩) hP hD hS hA rfl rfl (by decide) (by decide) (by decide) (Nat.le_of_ble_eq_true rfl) (Nat.le_of_ble_eq_true rfl) (fun u96_2 H locs hp96_3 hP hD hS => ?_)
    obtain ⟨y_tl_496_4, k_o0r96_5⟩ := u96_2
    obtain ⟨hp96_6, hp96_7⟩ := hp96_3
    have hp96_6 : rg y_tl_496_4 1 1000001 := hp96_6
    have hp96_7 : y_tl_496_4.toInt = x_tl_4.toInt + 1 := hp96_7
    have hP : va_P D vwCl [(tl, .inr (10, [.ref tls, .ref o0, .ref p0, .int x_tl_3, .int y_tl_496_4])), (o0, .inr (5, [.ref o0r, .int x_o0_1])), (o0r, .inl (ct 1, 60000, .inl k_o0r96_5))] _ := hP
    have hD : va_D A [(tl, .inr (10, [.ref tls, .ref o0, .ref p0, .int x_tl_3, .int y_tl_496_4])), (o0, .inr (5, [.ref o0r, .int x_o0_1])), (o0r, .inl (ct 1, 60000, .inl k_o0r96_5))] := hD
    refine lv_goto (tgt := 211) hx hb dX10_putPassing_99 (by decide) ?_
    exact endq_v hQ hx hb hr hlocks dX10_putPassing_211 (y_tl_496_4, k_o0r96_5) ⟨hp96_6, (show x_tl_4.toInt + 1 ≤ y_tl_496_4.toInt ∧ y_tl_496_4.toInt ≤ x_tl_4.toInt + 2 by have q0 := hp96_7; omega), (show v0.toInt = 4 → y_tl_496_4.toInt = x_tl_4.toInt + 2 by have q0 := r1_102.2; omega), (show v0.toInt ≠ 4 → y_tl_496_4.toInt = x_tl_4.toInt + 1 by have q0 := hp96_7; omega)⟩ hP hD hS [0, 1, 2] rfl (by decide) rfl (Nat.le_of_ble_eq_true rfl) (Nat.le_of_ble_eq_true rfl)
  by_cases h1_111 : v0.toInt = 2
  · have r1_112 : rg v0 2 2 := rg_at h1_111
    have hl1_113 := FF.mk h1_111
    refine lv_tableIn (off := 113) (tgt := 114) hx hb dX10_putPassing_1 (by rw [h1_111]; decide) (by rw [h1_111]; decide) (by rw [h1_111]; rfl) (by decide) ?_
    refine lv_aload_n hx hb dX10_putPassing_114 rfl (lv_at hl 0 rfl) ?_
    refine lv_bipush (v := 7) hx hb dX10_putPassing_115 (by decide) ?_
    refine lv_iload_n hx hb dX10_putPassing_117 rfl (lv_at hl 3 rfl) ?_
    refine lv_iload_n hx hb dX10_putPassing_118 rfl (lv_at hl 2 rfl) ?_
    refine lv_bipush (v := 8) hx hb dX10_putPassing_119 (by decide) ?_
    refine go_v (k1 := 0) (n1 := 0) (wr := []) [0, 1, 2] [] (rn_V (As := [.int 7, .int v2, .int v1, .int 8]) (rest := []) (c_X10_putBranch l D ct tl (7 : Int32) v2 v1 (8 : Int32) tls o0 p0 x_tl_3 x_tl_4 o0r x_o0_1 g_o0r h_x_tl_3 (rg_w h_x_tl_4 (by decide)) h_x_o0_1 _) (cb_of (n := 4) hn mw_1345 mw_10 mw_1342 mhX10_putBranch ⟨(Nat.le_of_ble_eq_true rfl), (Nat.le_of_ble_eq_true rfl)⟩) hx hb hml hown hn hK hSK hZ hS mw_1344 mw_s155 (ci := 10) (q0 := 0) rfl rfl rfl rfl hl.1 (Nat.le_of_ble_eq_true rfl) dX10_putPassing_121 ⟨(Nat.le_of_ble_eq_true rfl), (Nat.le_of_ble_eq_true rfl)⟩) hP hD hS hA rfl rfl (by decide) (by decide) (by decide) (Nat.le_of_ble_eq_true rfl) (Nat.le_of_ble_eq_true rfl) (fun u121_2 H locs hp121_3 hP hD hS => ?_)
    obtain ⟨y_tl_4121_4, k_o0r121_5⟩ := u121_2
    obtain ⟨hp121_6, hp121_7⟩ := hp121_3
    have hp121_6 : rg y_tl_4121_4 1 1000001 := hp121_6
    have hp121_7 : y_tl_4121_4.toInt = x_tl_4.toInt + 1 := hp121_7
    have hP : va_P D vwCl [(tl, .inr (10, [.ref tls, .ref o0, .ref p0, .int x_tl_3, .int y_tl_4121_4])), (o0, .inr (5, [.ref o0r, .int x_o0_1])), (o0r, .inl (ct 1, 60000, .inl k_o0r121_5))] _ := hP
    have hD : va_D A [(tl, .inr (10, [.ref tls, .ref o0, .ref p0, .int x_tl_3, .int y_tl_4121_4])), (o0, .inr (5, [.ref o0r, .int x_o0_1])), (o0r, .inl (ct 1, 60000, .inl k_o0r121_5))] := hD
    refine lv_goto (tgt := 211) hx hb dX10_putPassing_124 (by decide) ?_
    exact endq_v hQ hx hb hr hlocks dX10_putPassing_211 (y_tl_4121_4, k_o0r121_5) ⟨hp121_6, (show x_tl_4.toInt + 1 ≤ y_tl_4121_4.toInt ∧ y_tl_4121_4.toInt ≤ x_tl_4.toInt + 2 by have q0 := hp121_7; omega), (show v0.toInt = 4 → y_tl_4121_4.toInt = x_tl_4.toInt + 2 by have q0 := r1_112.2; omega), (show v0.toInt ≠ 4 → y_tl_4121_4.toInt = x_tl_4.toInt + 1 by have q0 := hp121_7; omega)⟩ hP hD hS [0, 1, 2] rfl (by decide) rfl (Nat.le_of_ble_eq_true rfl) (Nat.le_of_ble_eq_true rfl)
  by_cases h1_121 : v0.toInt = 3
  · have r1_122 : rg v0 3 3 := rg_at h1_121
    have hl1_123 := FF.mk h1_121
    refine lv_tableIn (off := 126) (tgt := 127) hx hb dX10_putPassing_1 (by rw [h1_121]; decide) (by rw [h1_121]; decide) (by rw [h1_121]; rfl) (by decide) ?_
    refine lv_aload_n hx hb dX10_putPassing_127 rfl (lv_at hl 0 rfl) ?_
    refine lv_bipush (v := 6) hx hb dX10_putPassing_128 (by decide) ?_
    refine lv_iload_n hx hb dX10_putPassing_130 rfl (lv_at hl 2 rfl) ?_
    refine lv_iload_n hx hb dX10_putPassing_131 rfl (lv_at hl 3 rfl) ?_
    refine lv_bipush (v := 8) hx hb dX10_putPassing_132 (by decide) ?_
    refine go_v (k1 := 0) (n1 := 0) (wr := []) [0, 1, 2] [] (rn_V (As := [.int 6, .int v1, .int v2, .int 8]) (rest := []) (c_X10_putBranch l D ct tl (6 : Int32) v1 v2 (8 : Int32) tls o0 p0 x_tl_3 x_tl_4 o0r x_o0_1 g_o0r h_x_tl_3 (rg_w h_x_tl_4 (by decide)) h_x_o0_1 _) (cb_of (n := 4) hn mw_1345 mw_10 mw_1342 mhX10_putBranch ⟨(Nat.le_of_ble_eq_true rfl), (Nat.le_of_ble_eq_true rfl)⟩) hx hb hml hown hn hK hSK hZ hS mw_1344 mw_s155 (ci := 10) (q0 := 0) rfl rfl rfl rfl hl.1 (Nat.le_of_ble_eq_true rfl) dX10_putPassing_134 ⟨(Nat.le_of_ble_eq_true rfl), (Nat.le_of_ble_eq_true rfl)⟩) hP hD hS hA rfl rfl (by decide) (by decide) (by decide) (Nat.le_of_ble_eq_true rfl) (Nat.le_of_ble_eq_true rfl) (fun u134_2 H locs hp134_3 hP hD hS => ?_)
    obtain ⟨y_tl_4134_4, k_o0r134_5⟩ := u134_2
    obtain ⟨hp134_6, hp134_7⟩ := hp134_3
    have hp134_6 : rg y_tl_4134_4 1 1000001 := hp134_6
    have hp134_7 : y_tl_4134_4.toInt = x_tl_4.toInt + 1 := hp134_7
    have hP : va_P D vwCl [(tl, .inr (10, [.ref tls, .ref o0, .ref p0, .int x_tl_3, .int y_tl_4134_4])), (o0, .inr (5, [.ref o0r, .int x_o0_1])), (o0r, .inl (ct 1, 60000, .inl k_o0r134_5))] _ := hP
    have hD : va_D A [(tl, .inr (10, [.ref tls, .ref o0, .ref p0, .int x_tl_3, .int y_tl_4134_4])), (o0, .inr (5, [.ref o0r, .int x_o0_1])), (o0r, .inl (ct 1, 60000, .inl k_o0r134_5))] := hD
    refine lv_goto (tgt := 211) hx hb dX10_putPassing_137 (by decide) ?_
    exact endq_v hQ hx hb hr hlocks dX10_putPassing_211 (y_tl_4134_4, k_o0r134_5) ⟨hp134_6, (show x_tl_4.toInt + 1 ≤ y_tl_4134_4.toInt ∧ y_tl_4134_4.toInt ≤ x_tl_4.toInt + 2 by have q0 := hp134_7; omega), (show v0.toInt = 4 → y_tl_4134_4.toInt = x_tl_4.toInt + 2 by have q0 := r1_122.2; omega), (show v0.toInt ≠ 4 → y_tl_4134_4.toInt = x_tl_4.toInt + 1 by have q0 := hp134_7; omega)⟩ hP hD hS [0, 1, 2] rfl (by decide) rfl (Nat.le_of_ble_eq_true rfl) (Nat.le_of_ble_eq_true rfl)
  by_cases h1_131 : v0.toInt = 4
  · have r1_132 : rg v0 4 4 := rg_at h1_131
    have hl1_133 := FF.mk h1_131
    refine lv_tableIn (off := 63) (tgt := 64) hx hb dX10_putPassing_1 (by rw [h1_131]; decide) (by rw [h1_131]; decide) (by rw [h1_131]; rfl) (by decide) ?_
    refine lv_aload_n hx hb dX10_putPassing_64 rfl (lv_at hl 0 rfl) ?_
    refine lv_bipush (v := 51) hx hb dX10_putPassing_65 (by decide) ?_
    refine lv_iconst (v := 0) hx hb dX10_putPassing_67 (by decide) ?_
    refine lv_bipush (v := 7) hx hb dX10_putPassing_68 (by decide) ?_
    refine lv_bipush (v := 6) hx hb dX10_putPassing_70 (by decide) ?_
    refine lv_iload_n hx hb dX10_putPassing_72 rfl (lv_at hl 2 rfl) ?_
    refine lv_iload_n hx hb dX10_putPassing_73 rfl (lv_at hl 3 rfl) ?_
    refine go_v (k1 := 0) (n1 := 0) (wr := []) [0, 1, 2] [] (rn_V (As := [.int 51, .int 0, .int 7, .int 6, .int v1, .int v2]) (rest := []) (c_X10_putOp l D ct tl (51 : Int32) (0 : Int32) (7 : Int32) (6 : Int32) v1 v2 tls o0 p0 x_tl_3 x_tl_4 o0r x_o0_1 g_o0r h_x_tl_3 (rg_w h_x_tl_4 (by decide)) h_x_o0_1 _) (cb_of (n := 6) hn mw_1329 mw_10 mw_1326 mhX10_putOp ⟨(Nat.le_of_ble_eq_true rfl), (Nat.le_of_ble_eq_true rfl)⟩) hx hb hml hown hn hK hSK hZ hS mw_1328 mw_s151 (ci := 10) (q0 := 0) rfl rfl rfl rfl hl.1 (Nat.le_of_ble_eq_true rfl) dX10_putPassing_74 ⟨(Nat.le_of_ble_eq_true rfl), (Nat.le_of_ble_eq_true rfl)⟩) hP hD hS hA rfl rfl (by decide) (by decide) (by decide) (Nat.le_of_ble_eq_true rfl) (Nat.le_of_ble_eq_true rfl) (fun u74_2 H locs hp74_3 hP hD hS => ?_)
    obtain ⟨y_tl_474_4, k_o0r74_5⟩ := u74_2
    obtain ⟨hp74_6, hp74_7⟩ := hp74_3
    have hp74_6 : rg y_tl_474_4 1 1000001 := hp74_6
    have hp74_7 : y_tl_474_4.toInt = x_tl_4.toInt + 1 := hp74_7
    have hP : va_P D vwCl [(tl, .inr (10, [.ref tls, .ref o0, .ref p0, .int x_tl_3, .int y_tl_474_4])), (o0, .inr (5, [.ref o0r, .int x_o0_1])), (o0r, .inl (ct 1, 60000, .inl k_o0r74_5))] _ := hP
    have hD : va_D A [(tl, .inr (10, [.ref tls, .ref o0, .ref p0, .int x_tl_3, .int y_tl_474_4])), (o0, .inr (5, [.ref o0r, .int x_o0_1])), (o0r, .inl (ct 1, 60000, .inl k_o0r74_5))] := hD
    refine lv_aload_n hx hb dX10_putPassing_77 rfl (lv_at hl 0 rfl) ?_
    refine lv_iconst (v := 0) hx hb dX10_putPassing_78 (by decide) ?_
    refine lv_bipush (v := 6) hx hb dX10_putPassing_79 (by decide) ?_
    refine lv_iconst (v := 0) hx hb dX10_putPassing_81 (by decide) ?_
    refine lv_bipush (v := 8) hx hb dX10_putPassing_82 (by decide) ?_
    refine go_v (k1 := 0) (n1 := 0) (wr := []) [0, 1, 2] [] (rn_V (As := [.int 0, .int 6, .int 0, .int 8]) (rest := []) (c_X10_putBranch l D ct tl (0 : Int32) (6 : Int32) (0 : Int32) (8 : Int32) tls o0 p0 x_tl_3 y_tl_474_4 o0r x_o0_1 k_o0r74_5 h_x_tl_3 (rg_of (show 0 ≤ y_tl_474_4.toInt ∧ y_tl_474_4.toInt ≤ 999990 by have q0 := hp74_6.1; have q1 := h_x_tl_4.2; have q2 := hp74_7; omega)) h_x_o0_1 _) (cb_of (n := 4) hn mw_1345 mw_10 mw_1342 mhX10_putBranch ⟨(Nat.le_of_ble_eq_true rfl), (Nat.le_of_ble_eq_true rfl)⟩) hx hb hml hown hn hK hSK hZ hS mw_1344 mw_s155 (ci := 10) (q0 := 0) rfl rfl rfl rfl hl.1 (Nat.le_of_ble_eq_true rfl) dX10_putPassing_84 ⟨(Nat.le_of_ble_eq_true rfl), (Nat.le_of_ble_eq_true rfl)⟩) hP hD hS hA rfl rfl (by decide) (by decide) (by decide) (Nat.le_of_ble_eq_true rfl) (Nat.le_of_ble_eq_true rfl) (fun u84_2 H locs hp84_3 hP hD hS => ?_)
    obtain ⟨y_tl_484_4, k_o0r84_5⟩ := u84_2
    obtain ⟨hp84_6, hp84_7⟩ := hp84_3
    have hp84_6 : rg y_tl_484_4 1 1000001 := hp84_6
    have hp84_7 : y_tl_484_4.toInt = y_tl_474_4.toInt + 1 := hp84_7
    have hP : va_P D vwCl [(tl, .inr (10, [.ref tls, .ref o0, .ref p0, .int x_tl_3, .int y_tl_484_4])), (o0, .inr (5, [.ref o0r, .int x_o0_1])), (o0r, .inl (ct 1, 60000, .inl k_o0r84_5))] _ := hP
    have hD : va_D A [(tl, .inr (10, [.ref tls, .ref o0, .ref p0, .int x_tl_3, .int y_tl_484_4])), (o0, .inr (5, [.ref o0r, .int x_o0_1])), (o0r, .inl (ct 1, 60000, .inl k_o0r84_5))] := hD
    refine lv_goto (tgt := 211) hx hb dX10_putPassing_87 (by decide) ?_
    exact endq_v hQ hx hb hr hlocks dX10_putPassing_211 (y_tl_484_4, k_o0r84_5) ⟨hp84_6, (show x_tl_4.toInt + 1 ≤ y_tl_484_4.toInt ∧ y_tl_484_4.toInt ≤ x_tl_4.toInt + 2 by have q0 := hp74_7; have q1 := hp84_7; omega), (show v0.toInt = 4 → y_tl_484_4.toInt = x_tl_4.toInt + 2 by have q0 := hp74_7; have q1 := hp84_7; omega), (show v0.toInt ≠ 4 → y_tl_484_4.toInt = x_tl_4.toInt + 1 by have q0 := r1_132.1; have q1 := r1_132.2; omega)⟩ hP hD hS [0, 1, 2] rfl (by decide) rfl (Nat.le_of_ble_eq_true rfl) (Nat.le_of_ble_eq_true rfl)
  by_cases h1_141 : v0.toInt = 5
  · have r1_142 : rg v0 5 5 := rg_at h1_141
    have hl1_143 := FF.mk h1_141
    refine lv_tableIn (off := 101) (tgt := 102) hx hb dX10_putPassing_1 (by rw [h1_141]; decide) (by rw [h1_141]; decide) (by rw [h1_141]; rfl) (by decide) ?_
    refine lv_aload_n hx hb dX10_putPassing_102 rfl (lv_at hl 0 rfl) ?_
    refine lv_iconst (v := 0) hx hb dX10_putPassing_103 (by decide) ?_
    refine lv_iload_n hx hb dX10_putPassing_104 rfl (lv_at hl 2 rfl) ?_
    refine lv_iload_n hx hb dX10_putPassing_105 rfl (lv_at hl 3 rfl) ?_
    refine lv_bipush (v := 8) hx hb dX10_putPassing_106 (by decide) ?_
    refine go_v (k1 := 0) (n1 := 0) (wr := []) [0, 1, 2] [] (rn_V (As := [.int 0, .int v1, .int v2, .int 8]) (rest := []) (c_X10_putBranch l D ct tl (0 : Int32) v1 v2 (8 : Int32) tls o0 p0 x_tl_3 x_tl_4 o0r x_o0_1 g_o0r h_x_tl_3 (rg_w h_x_tl_4 (by decide)) h_x_o0_1 _) (cb_of (n := 4) hn mw_1345 mw_10 mw_1342 mhX10_putBranch ⟨(Nat.le_of_ble_eq_true rfl), (Nat.le_of_ble_eq_true rfl)⟩) hx hb hml hown hn hK hSK hZ hS mw_1344 mw_s155 (ci := 10) (q0 := 0) rfl rfl rfl rfl hl.1 (Nat.le_of_ble_eq_true rfl) dX10_putPassing_108 ⟨(Nat.le_of_ble_eq_true rfl), (Nat.le_of_ble_eq_true rfl)⟩) hP hD hS hA rfl rfl (by decide) (by decide) (by decide) (Nat.le_of_ble_eq_true rfl) (Nat.le_of_ble_eq_true rfl) (fun u108_2 H locs hp108_3 hP hD hS => ?_)
    obtain ⟨y_tl_4108_4, k_o0r108_5⟩ := u108_2
    obtain ⟨hp108_6, hp108_7⟩ := hp108_3
    have hp108_6 : rg y_tl_4108_4 1 1000001 := hp108_6
    have hp108_7 : y_tl_4108_4.toInt = x_tl_4.toInt + 1 := hp108_7
    have hP : va_P D vwCl [(tl, .inr (10, [.ref tls, .ref o0, .ref p0, .int x_tl_3, .int y_tl_4108_4])), (o0, .inr (5, [.ref o0r, .int x_o0_1])), (o0r, .inl (ct 1, 60000, .inl k_o0r108_5))] _ := hP
    have hD : va_D A [(tl, .inr (10, [.ref tls, .ref o0, .ref p0, .int x_tl_3, .int y_tl_4108_4])), (o0, .inr (5, [.ref o0r, .int x_o0_1])), (o0r, .inl (ct 1, 60000, .inl k_o0r108_5))] := hD
    refine lv_goto (tgt := 211) hx hb dX10_putPassing_111 (by decide) ?_
    exact endq_v hQ hx hb hr hlocks dX10_putPassing_211 (y_tl_4108_4, k_o0r108_5) ⟨hp108_6, (show x_tl_4.toInt + 1 ≤ y_tl_4108_4.toInt ∧ y_tl_4108_4.toInt ≤ x_tl_4.toInt + 2 by have q0 := hp108_7; omega), (show v0.toInt = 4 → y_tl_4108_4.toInt = x_tl_4.toInt + 2 by have q0 := r1_142.1; omega), (show v0.toInt ≠ 4 → y_tl_4108_4.toInt = x_tl_4.toInt + 1 by have q0 := hp108_7; omega)⟩ hP hD hS [0, 1, 2] rfl (by decide) rfl (Nat.le_of_ble_eq_true rfl) (Nat.le_of_ble_eq_true rfl)
  by_cases h1_151 : v0.toInt = 6
  · have r1_152 : rg v0 6 6 := rg_at h1_151
    have hl1_153 := FF.mk h1_151
    refine lv_tableIn (off := 165) (tgt := 166) hx hb dX10_putPassing_1 (by rw [h1_151]; decide) (by rw [h1_151]; decide) (by rw [h1_151]; rfl) (by decide) ?_
    refine lv_aload_n hx hb dX10_putPassing_166 rfl (lv_at hl 0 rfl) ?_
    refine lv_iconst (v := 5) hx hb dX10_putPassing_167 (by decide) ?_
    refine lv_iload_n hx hb dX10_putPassing_168 rfl (lv_at hl 3 rfl) ?_
    refine lv_iload_n hx hb dX10_putPassing_169 rfl (lv_at hl 2 rfl) ?_
    refine lv_bipush (v := 8) hx hb dX10_putPassing_170 (by decide) ?_
    refine go_v (k1 := 0) (n1 := 0) (wr := []) [0, 1, 2] [] (rn_V (As := [.int 5, .int v2, .int v1, .int 8]) (rest := []) (c_X10_putBranch l D ct tl (5 : Int32) v2 v1 (8 : Int32) tls o0 p0 x_tl_3 x_tl_4 o0r x_o0_1 g_o0r h_x_tl_3 (rg_w h_x_tl_4 (by decide)) h_x_o0_1 _) (cb_of (n := 4) hn mw_1345 mw_10 mw_1342 mhX10_putBranch ⟨(Nat.le_of_ble_eq_true rfl), (Nat.le_of_ble_eq_true rfl)⟩) hx hb hml hown hn hK hSK hZ hS mw_1344 mw_s155 (ci := 10) (q0 := 0) rfl rfl rfl rfl hl.1 (Nat.le_of_ble_eq_true rfl) dX10_putPassing_172 ⟨(Nat.le_of_ble_eq_true rfl), (Nat.le_of_ble_eq_true rfl)⟩) hP hD hS hA rfl rfl (by decide) (by decide) (by decide) (Nat.le_of_ble_eq_true rfl) (Nat.le_of_ble_eq_true rfl) (fun u172_2 H locs hp172_3 hP hD hS => ?_)
    obtain ⟨y_tl_4172_4, k_o0r172_5⟩ := u172_2
    obtain ⟨hp172_6, hp172_7⟩ := hp172_3
    have hp172_6 : rg y_tl_4172_4 1 1000001 := hp172_6
    have hp172_7 : y_tl_4172_4.toInt = x_tl_4.toInt + 1 := hp172_7
    have hP : va_P D vwCl [(tl, .inr (10, [.ref tls, .ref o0, .ref p0, .int x_tl_3, .int y_tl_4172_4])), (o0, .inr (5, [.ref o0r, .int x_o0_1])), (o0r, .inl (ct 1, 60000, .inl k_o0r172_5))] _ := hP
    have hD : va_D A [(tl, .inr (10, [.ref tls, .ref o0, .ref p0, .int x_tl_3, .int y_tl_4172_4])), (o0, .inr (5, [.ref o0r, .int x_o0_1])), (o0r, .inl (ct 1, 60000, .inl k_o0r172_5))] := hD
    refine lv_goto (tgt := 211) hx hb dX10_putPassing_175 (by decide) ?_
    exact endq_v hQ hx hb hr hlocks dX10_putPassing_211 (y_tl_4172_4, k_o0r172_5) ⟨hp172_6, (show x_tl_4.toInt + 1 ≤ y_tl_4172_4.toInt ∧ y_tl_4172_4.toInt ≤ x_tl_4.toInt + 2 by have q0 := hp172_7; omega), (show v0.toInt = 4 → y_tl_4172_4.toInt = x_tl_4.toInt + 2 by have q0 := r1_152.1; omega), (show v0.toInt ≠ 4 → y_tl_4172_4.toInt = x_tl_4.toInt + 1 by have q0 := hp172_7; omega)⟩ hP hD hS [0, 1, 2] rfl (by decide) rfl (Nat.le_of_ble_eq_true rfl) (Nat.le_of_ble_eq_true rfl)
  by_cases h1_161 : v0.toInt = 7
  · have r1_162 : rg v0 7 7 := rg_at h1_161
    have hl1_163 := FF.mk h1_161
    refine lv_tableIn (off := 177) (tgt := 178) hx hb dX10_putPassing_1 (by rw [h1_161]; decide) (by rw [h1_161]; decide) (by rw [h1_161]; rfl) (by decide) ?_
    refine lv_aload_n hx hb dX10_putPassing_178 rfl (lv_at hl 0 rfl) ?_
    refine lv_iconst (v := 4) hx hb dX10_putPassing_179 (by decide) ?_
    refine lv_iload_n hx hb dX10_putPassing_180 rfl (lv_at hl 2 rfl) ?_
    refine lv_iload_n hx hb dX10_putPassing_181 rfl (lv_at hl 3 rfl) ?_
    refine lv_bipush (v := 8) hx hb dX10_putPassing_182 (by decide) ?_
    refine go_v (k1 := 0) (n1 := 0) (wr := []) [0, 1, 2] [] (rn_V (As := [.int 4, .int v1, .int v2, .int 8]) (rest := []) (c_X10_putBranch l D ct tl (4 : Int32) v1 v2 (8 : Int32) tls o0 p0 x_tl_3 x_tl_4 o0r x_o0_1 g_o0r h_x_tl_3 (rg_w h_x_tl_4 (by decide)) h_x_o0_1 _) (cb_of (n := 4) hn mw_1345 mw_10 mw_1342 mhX10_putBranch ⟨(Nat.le_of_ble_eq_true rfl), (Nat.le_of_ble_eq_true rfl)⟩) hx hb hml hown hn hK hSK hZ hS mw_1344 mw_s155 (ci := 10) (q0 := 0) rfl rfl rfl rfl hl.1 (Nat.le_of_ble_eq_true rfl) dX10_putPassing_184 ⟨(Nat.le_of_ble_eq_true rfl), (Nat.le_of_ble_eq_true rfl)⟩) hP hD hS hA rfl rfl (by decide) (by decide) (by decide) (Nat.le_of_ble_eq_true rfl) (Nat.le_of_ble_eq_true rfl) (fun u184_2 H locs hp184_3 hP hD hS => ?_)
    obtain ⟨y_tl_4184_4, k_o0r184_5⟩ := u184_2
    obtain ⟨hp184_6, hp184_7⟩ := hp184_3
    have hp184_6 : rg y_tl_4184_4 1 1000001 := hp184_6
    have hp184_7 : y_tl_4184_4.toInt = x_tl_4.toInt + 1 := hp184_7
    have hP : va_P D vwCl [(tl, .inr (10, [.ref tls, .ref o0, .ref p0, .int x_tl_3, .int y_tl_4184_4])), (o0, .inr (5, [.ref o0r, .int x_o0_1])), (o0r, .inl (ct 1, 60000, .inl k_o0r184_5))] _ := hP
    have hD : va_D A [(tl, .inr (10, [.ref tls, .ref o0, .ref p0, .int x_tl_3, .int y_tl_4184_4])), (o0, .inr (5, [.ref o0r, .int x_o0_1])), (o0r, .inl (ct 1, 60000, .inl k_o0r184_5))] := hD
    refine lv_goto (tgt := 211) hx hb dX10_putPassing_187 (by decide) ?_
    exact endq_v hQ hx hb hr hlocks dX10_putPassing_211 (y_tl_4184_4, k_o0r184_5) ⟨hp184_6, (show x_tl_4.toInt + 1 ≤ y_tl_4184_4.toInt ∧ y_tl_4184_4.toInt ≤ x_tl_4.toInt + 2 by have q0 := hp184_7; omega), (show v0.toInt = 4 → y_tl_4184_4.toInt = x_tl_4.toInt + 2 by have q0 := r1_162.1; omega), (show v0.toInt ≠ 4 → y_tl_4184_4.toInt = x_tl_4.toInt + 1 by have q0 := hp184_7; omega)⟩ hP hD hS [0, 1, 2] rfl (by decide) rfl (Nat.le_of_ble_eq_true rfl) (Nat.le_of_ble_eq_true rfl)
  by_cases h1_171 : v0.toInt = 8
  · have r1_172 : rg v0 8 8 := rg_at h1_171
    have hl1_173 := FF.mk h1_171
    refine lv_tableIn (off := 201) (tgt := 202) hx hb dX10_putPassing_1 (by rw [h1_171]; decide) (by rw [h1_171]; decide) (by rw [h1_171]; rfl) (by decide) ?_
    refine lv_aload_n hx hb dX10_putPassing_202 rfl (lv_at hl 0 rfl) ?_
    refine lv_iconst (v := 4) hx hb dX10_putPassing_203 (by decide) ?_
    refine lv_iload_n hx hb dX10_putPassing_204 rfl (lv_at hl 3 rfl) ?_
    refine lv_iload_n hx hb dX10_putPassing_205 rfl (lv_at hl 2 rfl) ?_
    refine lv_bipush (v := 8) hx hb dX10_putPassing_206 (by decide) ?_
    refine go_v (k1 := 0) (n1 := 0) (wr := []) [0, 1, 2] [] (rn_V (As := [.int 4, .int v2, .int v1, .int 8]) (rest := []) (c_X10_putBranch l D ct tl (4 : Int32) v2 v1 (8 : Int32) tls o0 p0 x_tl_3 x_tl_4 o0r x_o0_1 g_o0r h_x_tl_3 (rg_w h_x_tl_4 (by decide)) h_x_o0_1 _) (cb_of (n := 4) hn mw_1345 mw_10 mw_1342 mhX10_putBranch ⟨(Nat.le_of_ble_eq_true rfl), (Nat.le_of_ble_eq_true rfl)⟩) hx hb hml hown hn hK hSK hZ hS mw_1344 mw_s155 (ci := 10) (q0 := 0) rfl rfl rfl rfl hl.1 (Nat.le_of_ble_eq_true rfl) dX10_putPassing_208 ⟨(Nat.le_of_ble_eq_true rfl), (Nat.le_of_ble_eq_true rfl)⟩) hP hD hS hA rfl rfl (by decide) (by decide) (by decide) (Nat.le_of_ble_eq_true rfl) (Nat.le_of_ble_eq_true rfl) (fun u208_2 H locs hp208_3 hP hD hS => ?_)
    obtain ⟨y_tl_4208_4, k_o0r208_5⟩ := u208_2
    obtain ⟨hp208_6, hp208_7⟩ := hp208_3
    have hp208_6 : rg y_tl_4208_4 1 1000001 := hp208_6
    have hp208_7 : y_tl_4208_4.toInt = x_tl_4.toInt + 1 := hp208_7
    have hP : va_P D vwCl [(tl, .inr (10, [.ref tls, .ref o0, .ref p0, .int x_tl_3, .int y_tl_4208_4])), (o0, .inr (5, [.ref o0r, .int x_o0_1])), (o0r, .inl (ct 1, 60000, .inl k_o0r208_5))] _ := hP
    have hD : va_D A [(tl, .inr (10, [.ref tls, .ref o0, .ref p0, .int x_tl_3, .int y_tl_4208_4])), (o0, .inr (5, [.ref o0r, .int x_o0_1])), (o0r, .inl (ct 1, 60000, .inl k_o0r208_5))] := hD
    exact endq_v hQ hx hb hr hlocks dX10_putPassing_211 (y_tl_4208_4, k_o0r208_5) ⟨hp208_6, (show x_tl_4.toInt + 1 ≤ y_tl_4208_4.toInt ∧ y_tl_4208_4.toInt ≤ x_tl_4.toInt + 2 by have q0 := hp208_7; omega), (show v0.toInt = 4 → y_tl_4208_4.toInt = x_tl_4.toInt + 2 by have q0 := r1_172.1; omega), (show v0.toInt ≠ 4 → y_tl_4208_4.toInt = x_tl_4.toInt + 1 by have q0 := hp208_7; omega)⟩ hP hD hS [0, 1, 2] rfl (by decide) rfl (Nat.le_of_ble_eq_true rfl) (Nat.le_of_ble_eq_true rfl)
  by_cases h1_181 : v0.toInt = 9
  · have r1_182 : rg v0 9 9 := rg_at h1_181
    have hl1_183 := FF.mk h1_181
    refine lv_tableIn (off := 201) (tgt := 202) hx hb dX10_putPassing_1 (by rw [h1_181]; decide) (by rw [h1_181]; decide) (by rw [h1_181]; rfl) (by decide) ?_
    refine lv_aload_n hx hb dX10_putPassing_202 rfl (lv_at hl 0 rfl) ?_
    refine lv_iconst (v := 4) hx hb dX10_putPassing_203 (by decide) ?_
    refine lv_iload_n hx hb dX10_putPassing_204 rfl (lv_at hl 3 rfl) ?_
    refine lv_iload_n hx hb dX10_putPassing_205 rfl (lv_at hl 2 rfl) ?_
    refine lv_bipush (v := 8) hx hb dX10_putPassing_206 (by decide) ?_
    refine go_v (k1 := 0) (n1 := 0) (wr := []) [0, 1, 2] [] (rn_V (As := [.int 4, .int v2, .int v1, .int 8]) (rest := []) (c_X10_putBranch l D ct tl (4 : Int32) v2 v1 (8 : Int32) tls o0 p0 x_tl_3 x_tl_4 o0r x_o0_1 g_o0r h_x_tl_3 (rg_w h_x_tl_4 (by decide)) h_x_o0_1 _) (cb_of (n := 4) hn mw_1345 mw_10 mw_1342 mhX10_putBranch ⟨(Nat.le_of_ble_eq_true rfl), (Nat.le_of_ble_eq_true rfl)⟩) hx hb hml hown hn hK hSK hZ hS mw_1344 mw_s155 (ci := 10) (q0 := 0) rfl rfl rfl rfl hl.1 (Nat.le_of_ble_eq_true rfl) dX10_putPassing_208 ⟨(Nat.le_of_ble_eq_true rfl), (Nat.le_of_ble_eq_true rfl)⟩) hP hD hS hA rfl rfl (by decide) (by decide) (by decide) (Nat.le_of_ble_eq_true rfl) (Nat.le_of_ble_eq_true rfl) (fun u208_2 H locs hp208_3 hP hD hS => ?_)
    obtain ⟨y_tl_4208_4, k_o0r208_5⟩ := u208_2
    obtain ⟨hp208_6, hp208_7⟩ := hp208_3
    have hp208_6 : rg y_tl_4208_4 1 1000001 := hp208_6
    have hp208_7 : y_tl_4208_4.toInt = x_tl_4.toInt + 1 := hp208_7
    have hP : va_P D vwCl [(tl, .inr (10, [.ref tls, .ref o0, .ref p0, .int x_tl_3, .int y_tl_4208_4])), (o0, .inr (5, [.ref o0r, .int x_o0_1])), (o0r, .inl (ct 1, 60000, .inl k_o0r208_5))] _ := hP
    have hD : va_D A [(tl, .inr (10, [.ref tls, .ref o0, .ref p0, .int x_tl_3, .int y_tl_4208_4])), (o0, .inr (5, [.ref o0r, .int x_o0_1])), (o0r, .inl (ct 1, 60000, .inl k_o0r208_5))] := hD
    exact endq_v hQ hx hb hr hlocks dX10_putPassing_211 (y_tl_4208_4, k_o0r208_5) ⟨hp208_6, (show x_tl_4.toInt + 1 ≤ y_tl_4208_4.toInt ∧ y_tl_4208_4.toInt ≤ x_tl_4.toInt + 2 by have q0 := hp208_7; omega), (show v0.toInt = 4 → y_tl_4208_4.toInt = x_tl_4.toInt + 2 by have q0 := r1_182.1; omega), (show v0.toInt ≠ 4 → y_tl_4208_4.toInt = x_tl_4.toInt + 1 by have q0 := hp208_7; omega)⟩ hP hD hS [0, 1, 2] rfl (by decide) rfl (Nat.le_of_ble_eq_true rfl) (Nat.le_of_ble_eq_true rfl)
  by_cases h1_191 : v0.toInt = 10
  · have r1_192 : rg v0 10 10 := rg_at h1_191
    have hl1_193 := FF.mk h1_191
    refine lv_tableIn (off := 139) (tgt := 140) hx hb dX10_putPassing_1 (by rw [h1_191]; decide) (by rw [h1_191]; decide) (by rw [h1_191]; rfl) (by decide) ?_
    refine lv_aload_n hx hb dX10_putPassing_140 rfl (lv_at hl 0 rfl) ?_
    refine lv_bipush (v := 7) hx hb dX10_putPassing_141 (by decide) ?_
    refine lv_iload_n hx hb dX10_putPassing_143 rfl (lv_at hl 2 rfl) ?_
    refine lv_iload_n hx hb dX10_putPassing_144 rfl (lv_at hl 3 rfl) ?_
    refine lv_bipush (v := 8) hx hb dX10_putPassing_145 (by decide) ?_
    refine go_v (k1 := 0) (n1 := 0) (wr := []) [0, 1, 2] [] (rn_V (As := [.int 7, .int v1, .int v2, .int 8]) (rest := []) (c_X10_putBranch l D ct tl (7 : Int32) v1 v2 (8 : Int32) tls o0 p0 x_tl_3 x_tl_4 o0r x_o0_1 g_o0r h_x_tl_3 (rg_w h_x_tl_4 (by decide)) h_x_o0_1 _) (cb_of (n := 4) hn mw_1345 mw_10 mw_1342 mhX10_putBranch ⟨(Nat.le_of_ble_eq_true rfl), (Nat.le_of_ble_eq_true rfl)⟩) hx hb hml hown hn hK hSK hZ hS mw_1344 mw_s155 (ci := 10) (q0 := 0) rfl rfl rfl rfl hl.1 (Nat.le_of_ble_eq_true rfl) dX10_putPassing_147 ⟨(Nat.le_of_ble_eq_true rfl), (Nat.le_of_ble_eq_true rfl)⟩) hP hD hS hA rfl rfl (by decide) (by decide) (by decide) (Nat.le_of_ble_eq_true rfl) (Nat.le_of_ble_eq_true rfl) (fun u147_2 H locs hp147_3 hP hD hS => ?_)
    obtain ⟨y_tl_4147_4, k_o0r147_5⟩ := u147_2
    obtain ⟨hp147_6, hp147_7⟩ := hp147_3
    have hp147_6 : rg y_tl_4147_4 1 1000001 := hp147_6
    have hp147_7 : y_tl_4147_4.toInt = x_tl_4.toInt + 1 := hp147_7
    have hP : va_P D vwCl [(tl, .inr (10, [.ref tls, .ref o0, .ref p0, .int x_tl_3, .int y_tl_4147_4])), (o0, .inr (5, [.ref o0r, .int x_o0_1])), (o0r, .inl (ct 1, 60000, .inl k_o0r147_5))] _ := hP
    have hD : va_D A [(tl, .inr (10, [.ref tls, .ref o0, .ref p0, .int x_tl_3, .int y_tl_4147_4])), (o0, .inr (5, [.ref o0r, .int x_o0_1])), (o0r, .inl (ct 1, 60000, .inl k_o0r147_5))] := hD
    refine lv_goto (tgt := 211) hx hb dX10_putPassing_150 (by decide) ?_
    exact endq_v hQ hx hb hr hlocks dX10_putPassing_211 (y_tl_4147_4, k_o0r147_5) ⟨hp147_6, (show x_tl_4.toInt + 1 ≤ y_tl_4147_4.toInt ∧ y_tl_4147_4.toInt ≤ x_tl_4.toInt + 2 by have q0 := hp147_7; omega), (show v0.toInt = 4 → y_tl_4147_4.toInt = x_tl_4.toInt + 2 by have q0 := r1_192.1; omega), (show v0.toInt ≠ 4 → y_tl_4147_4.toInt = x_tl_4.toInt + 1 by have q0 := hp147_7; omega)⟩ hP hD hS [0, 1, 2] rfl (by decide) rfl (Nat.le_of_ble_eq_true rfl) (Nat.le_of_ble_eq_true rfl)
  by_cases h1_201 : v0.toInt = 11
  · have r1_202 : rg v0 11 11 := rg_at h1_201
    have hl1_203 := FF.mk h1_201
    refine lv_tableIn (off := 152) (tgt := 153) hx hb dX10_putPassing_1 (by rw [h1_201]; decide) (by rw [h1_201]; decide) (by rw [h1_201]; rfl) (by decide) ?_
    refine lv_aload_n hx hb dX10_putPassing_153 rfl (lv_at hl 0 rfl) ?_
    refine lv_bipush (v := 6) hx hb dX10_putPassing_154 (by decide) ?_
    refine lv_iload_n hx hb dX10_putPassing_156 rfl (lv_at hl 3 rfl) ?_
    refine lv_iload_n hx hb dX10_putPassing_157 rfl (lv_at hl 2 rfl) ?_
    refine lv_bipush (v := 8) hx hb dX10_putPassing_158 (by decide) ?_
    refine go_v (k1 := 0) (n1 := 0) (wr := []) [0, 1, 2] [] (rn_V (As := [.int 6, .int v2, .int v1, .int 8]) (rest := []) (c_X10_putBranch l D ct tl (6 : Int32) v2 v1 (8 : Int32) tls o0 p0 x_tl_3 x_tl_4 o0r x_o0_1 g_o0r h_x_tl_3 (rg_w h_x_tl_4 (by decide)) h_x_o0_1 _) (cb_of (n := 4) hn mw_1345 mw_10 mw_1342 mhX10_putBranch ⟨(Nat.le_of_ble_eq_true rfl), (Nat.le_of_ble_eq_true rfl)⟩) hx hb hml hown hn hK hSK hZ hS mw_1344 mw_s155 (ci := 10) (q0 := 0) rfl rfl rfl rfl hl.1 (Nat.le_of_ble_eq_true rfl) dX10_putPassing_160 ⟨(Nat.le_of_ble_eq_true rfl), (Nat.le_of_ble_eq_true rfl)⟩) hP hD hS hA rfl rfl (by decide) (by decide) (by decide) (Nat.le_of_ble_eq_true rfl) (Nat.le_of_ble_eq_true rfl) (fun u160_2 H locs hp160_3 hP hD hS => ?_)
    obtain ⟨y_tl_4160_4, k_o0r160_5⟩ := u160_2
    obtain ⟨hp160_6, hp160_7⟩ := hp160_3
    have hp160_6 : rg y_tl_4160_4 1 1000001 := hp160_6
    have hp160_7 : y_tl_4160_4.toInt = x_tl_4.toInt + 1 := hp160_7
    have hP : va_P D vwCl [(tl, .inr (10, [.ref tls, .ref o0, .ref p0, .int x_tl_3, .int y_tl_4160_4])), (o0, .inr (5, [.ref o0r, .int x_o0_1])), (o0r, .inl (ct 1, 60000, .inl k_o0r160_5))] _ := hP
    have hD : va_D A [(tl, .inr (10, [.ref tls, .ref o0, .ref p0, .int x_tl_3, .int y_tl_4160_4])), (o0, .inr (5, [.ref o0r, .int x_o0_1])), (o0r, .inl (ct 1, 60000, .inl k_o0r160_5))] := hD
    refine lv_goto (tgt := 211) hx hb dX10_putPassing_163 (by decide) ?_
    exact endq_v hQ hx hb hr hlocks dX10_putPassing_211 (y_tl_4160_4, k_o0r160_5) ⟨hp160_6, (show x_tl_4.toInt + 1 ≤ y_tl_4160_4.toInt ∧ y_tl_4160_4.toInt ≤ x_tl_4.toInt + 2 by have q0 := hp160_7; omega), (show v0.toInt = 4 → y_tl_4160_4.toInt = x_tl_4.toInt + 2 by have q0 := r1_202.1; omega), (show v0.toInt ≠ 4 → y_tl_4160_4.toInt = x_tl_4.toInt + 1 by have q0 := hp160_7; omega)⟩ hP hD hS [0, 1, 2] rfl (by decide) rfl (Nat.le_of_ble_eq_true rfl) (Nat.le_of_ble_eq_true rfl)
  by_cases h1_211 : v0.toInt = 12
  · have r1_212 : rg v0 12 12 := rg_at h1_211
    have hl1_213 := FF.mk h1_211
    refine lv_tableIn (off := 189) (tgt := 190) hx hb dX10_putPassing_1 (by rw [h1_211]; decide) (by rw [h1_211]; decide) (by rw [h1_211]; rfl) (by decide) ?_
    refine lv_aload_n hx hb dX10_putPassing_190 rfl (lv_at hl 0 rfl) ?_
    refine lv_iconst (v := 5) hx hb dX10_putPassing_191 (by decide) ?_
    refine lv_iload_n hx hb dX10_putPassing_192 rfl (lv_at hl 2 rfl) ?_
    refine lv_iload_n hx hb dX10_putPassing_193 rfl (lv_at hl 3 rfl) ?_
    refine lv_bipush (v := 8) hx hb dX10_putPassing_194 (by decide) ?_
    refine go_v (k1 := 0) (n1 := 0) (wr := []) [0, 1, 2] [] (rn_V (As := [.int 5, .int v1, .int v2, .int 8]) (rest := []) (c_X10_putBranch l D ct tl (5 : Int32) v1 v2 (8 : Int32) tls o0 p0 x_tl_3 x_tl_4 o0r x_o0_1 g_o0r h_x_tl_3 (rg_w h_x_tl_4 (by decide)) h_x_o0_1 _) (cb_of (n := 4) hn mw_1345 mw_10 mw_1342 mhX10_putBranch ⟨(Nat.le_of_ble_eq_true rfl), (Nat.le_of_ble_eq_true rfl)⟩) hx hb hml hown hn hK hSK hZ hS mw_1344 mw_s155 (ci := 10) (q0 := 0) rfl rfl rfl rfl hl.1 (Nat.le_of_ble_eq_true rfl) dX10_putPassing_196 ⟨(Nat.le_of_ble_eq_true rfl), (Nat.le_of_ble_eq_true rfl)⟩) hP hD hS hA rfl rfl (by decide) (by decide) (by decide) (Nat.le_of_ble_eq_true rfl) (Nat.le_of_ble_eq_true rfl) (fun u196_2 H locs hp196_3 hP hD hS => ?_)
    obtain ⟨y_tl_4196_4, k_o0r196_5⟩ := u196_2
    obtain ⟨hp196_6, hp196_7⟩ := hp196_3
    have hp196_6 : rg y_tl_4196_4 1 1000001 := hp196_6
    have hp196_7 : y_tl_4196_4.toInt = x_tl_4.toInt + 1 := hp196_7
    have hP : va_P D vwCl [(tl, .inr (10, [.ref tls, .ref o0, .ref p0, .int x_tl_3, .int y_tl_4196_4])), (o0, .inr (5, [.ref o0r, .int x_o0_1])), (o0r, .inl (ct 1, 60000, .inl k_o0r196_5))] _ := hP
    have hD : va_D A [(tl, .inr (10, [.ref tls, .ref o0, .ref p0, .int x_tl_3, .int y_tl_4196_4])), (o0, .inr (5, [.ref o0r, .int x_o0_1])), (o0r, .inl (ct 1, 60000, .inl k_o0r196_5))] := hD
    refine lv_goto (tgt := 211) hx hb dX10_putPassing_199 (by decide) ?_
    exact endq_v hQ hx hb hr hlocks dX10_putPassing_211 (y_tl_4196_4, k_o0r196_5) ⟨hp196_6, (show x_tl_4.toInt + 1 ≤ y_tl_4196_4.toInt ∧ y_tl_4196_4.toInt ≤ x_tl_4.toInt + 2 by have q0 := hp196_7; omega), (show v0.toInt = 4 → y_tl_4196_4.toInt = x_tl_4.toInt + 2 by have q0 := r1_212.1; omega), (show v0.toInt ≠ 4 → y_tl_4196_4.toInt = x_tl_4.toInt + 1 by have q0 := hp196_7; omega)⟩ hP hD hS [0, 1, 2] rfl (by decide) rfl (Nat.le_of_ble_eq_true rfl) (Nat.le_of_ble_eq_true rfl)
  refine lv_tableOut (tgt := 202) hx hb dX10_putPassing_1 (by have q0 := (rg_any v0); have q1 := q0.1; have q2 := q0.2; omega) (by decide) ?_
  have hl1_5001 := h1_101
  have hl1_5002 := h1_111
  have hl1_5003 := h1_121
  have hl1_5004 := h1_131
  have hl1_5005 := h1_141
  have hl1_5006 := h1_151
  have hl1_5007 := h1_161
  have hl1_5008 := h1_171
  have hl1_5009 := h1_181
  have hl1_5010 := h1_191
  have hl1_5011 := h1_201
  have hl1_5012 := h1_211
  refine lv_aload_n hx hb dX10_putPassing_202 rfl (lv_at hl 0 rfl) ?_
  refine lv_iconst (v := 4) hx hb dX10_putPassing_203 (by decide) ?_
  refine lv_iload_n hx hb dX10_putPassing_204 rfl (lv_at hl 3 rfl) ?_
  refine lv_iload_n hx hb dX10_putPassing_205 rfl (lv_at hl 2 rfl) ?_
  refine lv_bipush (v := 8) hx hb dX10_putPassing_206 (by decide) ?_
  refine go_v (k1 := 0) (n1 := 0) (wr := []) [0, 1, 2] [] (rn_V (As := [.int 4, .int v2, .int v1, .int 8]) (rest := []) (c_X10_putBranch l D ct tl (4 : Int32) v2 v1 (8 : Int32) tls o0 p0 x_tl_3 x_tl_4 o0r x_o0_1 g_o0r h_x_tl_3 (rg_w h_x_tl_4 (by decide)) h_x_o0_1 _) (cb_of (n := 4) hn mw_1345 mw_10 mw_1342 mhX10_putBranch ⟨(Nat.le_of_ble_eq_true rfl), (Nat.le_of_ble_eq_true rfl)⟩) hx hb hml hown hn hK hSK hZ hS mw_1344 mw_s155 (ci := 10) (q0 := 0) rfl rfl rfl rfl hl.1 (Nat.le_of_ble_eq_true rfl) dX10_putPassing_208 ⟨(Nat.le_of_ble_eq_true rfl), (Nat.le_of_ble_eq_true rfl)⟩) hP hD hS hA rfl rfl (by decide) (by decide) (by decide) (Nat.le_of_ble_eq_true rfl) (Nat.le_of_ble_eq_true rfl) (fun u208_2 H locs hp208_3 hP hD hS => ?_)
  obtain ⟨y_tl_4208_4, k_o0r208_5⟩ := u208_2
  obtain ⟨hp208_6, hp208_7⟩ := hp208_3
  have hp208_6 : rg y_tl_4208_4 1 1000001 := hp208_6
  have hp208_7 : y_tl_4208_4.toInt = x_tl_4.toInt + 1 := hp208_7
  have hP : va_P D vwCl [(tl, .inr (10, [.ref tls, .ref o0, .ref p0, .int x_tl_3, .int y_tl_4208_4])), (o0, .inr (5, [.ref o0r, .int x_o0_1])), (o0r, .inl (ct 1, 60000, .inl k_o0r208_5))] _ := hP
  have hD : va_D A [(tl, .inr (10, [.ref tls, .ref o0, .ref p0, .int x_tl_3, .int y_tl_4208_4])), (o0, .inr (5, [.ref o0r, .int x_o0_1])), (o0r, .inl (ct 1, 60000, .inl k_o0r208_5))] := hD
  exact endq_v hQ hx hb hr hlocks dX10_putPassing_211 (y_tl_4208_4, k_o0r208_5) ⟨hp208_6, (show x_tl_4.toInt + 1 ≤ y_tl_4208_4.toInt ∧ y_tl_4208_4.toInt ≤ x_tl_4.toInt + 2 by have q0 := hp208_7; omega), (show v0.toInt = 4 → y_tl_4208_4.toInt = x_tl_4.toInt + 2 by have q0 := hl1_5004; omega), (show v0.toInt ≠ 4 → y_tl_4208_4.toInt = x_tl_4.toInt + 1 by have q0 := hp208_7; omega)⟩ hP hD hS [0, 1, 2] rfl (by decide) rfl (Nat.le_of_ble_eq_true rfl) (Nat.le_of_ble_eq_true rfl)
set_option maxHeartbeats 2000000 in
theorem c_X10_putSide_w (l : Launch) (D : va_G) (ct : Nat → ClassId) (cc : Int32) (kk : Int32) (tl : Nat) (v0 : Int64) (tls : Nat) (o0 : Nat) (p0 : Nat) (x_tl_3 : Int32) (x_tl_4 : Int32) (o0r : Nat) (x_o0_1 : Int32) (g_o0r : Nat → Int32) (h_x_tl_3 : rg x_tl_3 0 1) (h_x_tl_4 : rg x_tl_4 0 999900) (h_x_o0_1 : rg x_o0_1 0 60000) (hq0 : cc.toInt = v0.toInt % 256) (hq1 : kk.toInt = v0.toInt / 4294967296) : KI (S := Int32 × (Nat → Int32)) l yX10_putSide cX10_putSide 3 (some .int) 3 63 D ct [.ref tl, .long v0] [(tl, .inr (10, [.ref tls, .ref o0, .ref p0, .int x_tl_3, .int x_tl_4])), (o0, .inr (5, [.ref o0r, .int x_o0_1])), (o0r, .inl (ct 1, 60000, .inl g_o0r))] 0 0 (fun (r : Int32) (u : Int32 × (Nat → Int32)) => match u with | (y_tl_4, k_o0r) => rg y_tl_4 0 1000001 ∧ (x_tl_4.toInt + 0 ≤ y_tl_4.toInt ∧ y_tl_4.toInt ≤ x_tl_4.toInt + 2) ∧ ((cc.toInt / 8) % 2 = 1 → y_tl_4.toInt = x_tl_4.toInt) ∧ ((cc.toInt / 8) % 2 = 0 ∧ -2048 ≤ kk.toInt ∧ kk.toInt ≤ 2047 → y_tl_4.toInt = x_tl_4.toInt + 1) ∧ ((cc.toInt / 8) % 2 = 0 ∧ (kk.toInt < -2048 ∨ 2047 < kk.toInt) → y_tl_4.toInt = x_tl_4.toInt + 2)) (fun (u : Int32 × (Nat → Int32)) => match u with | (y_tl_4, k_o0r) => [(tl, .inr (10, [.ref tls, .ref o0, .ref p0, .int x_tl_3, .int y_tl_4])), (o0, .inr (5, [.ref o0r, .int x_o0_1])), (o0r, .inl (ct 1, 60000, .inl k_o0r))]) := by
  refine KIq_of (by decide) (Nat.le_of_ble_eq_true rfl) (fun p e s m below meth c A Q C0 hA H locs hS hP hD hQ ls hl => ?_)
  obtain ⟨hx, hb, hr, hown, hin, hml, hlocks, hn, hK, hZ, hSK⟩ := C0
  have hl : lv_has ls 3 [(0, .ref tl), (1, .long v0)] := hl
  refine lv_lload_n hx hb dX10_putSide_0 rfl (lv_at hl 1 rfl) ?_
  refine go_i (k1 := 0) (n1 := 0) (wr := [(tl, .inr (10, [.ref tls, .ref o0, .ref p0, .int x_tl_3, .int x_tl_4])), (o0, .inr (5, [.ref o0r, .int x_o0_1])), (o0r, .inl (ct 1, 60000, .inl g_o0r))]) [] [0, 1, 2] (rn_SN (As := [.long v0]) (rest := []) (c_X7_codeOf l D ct v0  _) (cn_of (n := 1) hn mw_956 mw_7 mw_1299 mhX7_codeOf ⟨(Nat.le_of_ble_eq_true rfl), (Nat.le_of_ble_eq_true rfl)⟩) hx hb hml hown hn hK hSK hZ hS mw_955 rfl hl.1 (Nat.le_of_ble_eq_true rfl) dX10_putSide_1 ⟨(Nat.le_of_ble_eq_true rfl), (Nat.le_of_ble_eq_true rfl)⟩) hP hD hS hA rfl rfl (by decide) (by decide) (by decide) (Nat.le_of_ble_eq_true rfl) (Nat.le_of_ble_eq_true rfl) (fun r1_1 u1_2 H locs hp1_3 hP hD hS => ?_)
  obtain ⟨hp1_4, hp1_5⟩ := hp1_3
  have hp1_4 : rg r1_1 0 255 := hp1_4
  have hp1_5 : r1_1.toInt = v0.toInt % 256 := hp1_5
  have hP : va_P D vwCl [(tl, .inr (10, [.ref tls, .ref o0, .ref p0, .int x_tl_3, .int x_tl_4])), (o0, .inr (5, [.ref o0r, .int x_o0_1])), (o0r, .inl (ct 1, 60000, .inl g_o0r))] _ := hP
  have hD : va_D A [(tl, .inr (10, [.ref tls, .ref o0, .ref p0, .int x_tl_3, .int x_tl_4])), (o0, .inr (5, [.ref o0r, .int x_o0_1])), (o0r, .inl (ct 1, 60000, .inl g_o0r))] := hD
  have hk4_1 : r1_1.toInt = cc.toInt := FF.mk (by have h1 := FF.out hq0; have h2 := FF.out hp1_5; omega)
  refine go_i (k1 := 0) (n1 := 0) (wr := [(tl, .inr (10, [.ref tls, .ref o0, .ref p0, .int x_tl_3, .int x_tl_4])), (o0, .inr (5, [.ref o0r, .int x_o0_1])), (o0r, .inl (ct 1, 60000, .inl g_o0r))]) [] [0, 1, 2] (rn_SN (As := [.int r1_1]) (rest := []) (c_X7_hasS_w l D ct r1_1 hp1_4 _) (cn_of (n := 1) hn mw_968 mw_7 mw_1310 mhX7_hasS ⟨(Nat.le_of_ble_eq_true rfl), (Nat.le_of_ble_eq_true rfl)⟩) hx hb hml hown hn hK hSK hZ hS mw_967 rfl hl.1 (Nat.le_of_ble_eq_true rfl) dX10_putSide_4 ⟨(Nat.le_of_ble_eq_true rfl), (Nat.le_of_ble_eq_true rfl)⟩) hP hD hS hA rfl rfl (by decide) (by decide) (by decide) (Nat.le_of_ble_eq_true rfl) (Nat.le_of_ble_eq_true rfl) (fun r4_2 u4_3 H locs hp4_4 hP hD hS => ?_)
  obtain ⟨hp4_5, hp4_6, hp4_7⟩ := hp4_4
  have hp4_5 : rg r4_2 0 1 := hp4_5
  have hp4_6 : r4_2.toInt = 1 → (r1_1.toInt / 8) % 2 = 1 := hp4_6
  have hp4_7 : r4_2.toInt = 0 → (r1_1.toInt / 8) % 2 = 0 := hp4_7
  have hP : va_P D vwCl [(tl, .inr (10, [.ref tls, .ref o0, .ref p0, .int x_tl_3, .int x_tl_4])), (o0, .inr (5, [.ref o0r, .int x_o0_1])), (o0r, .inl (ct 1, 60000, .inl g_o0r))] _ := hP
  have hD : va_D A [(tl, .inr (10, [.ref tls, .ref o0, .ref p0, .int x_tl_3, .int x_tl_4])), (o0, .inr (5, [.ref o0r, .int x_o0_1])), (o0r, .inl (ct 1, 60000, .inl g_o0r))] := hD
  refine lv_if_eq (tgt := 18) hx hb dX10_putSide_7 (by decide) (fun c7_1 => ?_) (fun c7_1 => ?_)
  · have t7_2 := (i_eq c7_1)
    have r7_3 : rg r4_2 0 0 := rg_eqA t7_2 hp4_5 (show rg (0 : Int32) 0 0 from rg_l (by decide)) (by decide)
    refine lv_aload_n hx hb dX10_putSide_18 rfl (lv_at hl 0 rfl) ?_
    refine lv_iconst (v := 5) hx hb dX10_putSide_19 (by decide) ?_
    refine lv_lload_n hx hb dX10_putSide_20 rfl (lv_at hl 1 rfl) ?_
    refine go_i (k1 := 0) (n1 := 0) (wr := [(tl, .inr (10, [.ref tls, .ref o0, .ref p0, .int x_tl_3, .int x_tl_4])), (o0, .inr (5, [.ref o0r, .int x_o0_1])), (o0r, .inl (ct 1, 60000, .inl g_o0r))]) [] [0, 1, 2] (rn_SN (As := [.long v0]) (rest := [.int 5, .ref tl]) (c_X7_kOf_w l D ct v0  _) (cn_of (n := 1) hn mw_995 mw_7 mw_1311 mhX7_kOf ⟨(Nat.le_of_ble_eq_true rfl), (Nat.le_of_ble_eq_true rfl)⟩) hx hb hml hown hn hK hSK hZ hS mw_994 rfl hl.1 (Nat.le_of_ble_eq_true rfl) dX10_putSide_21 ⟨(Nat.le_of_ble_eq_true rfl), (Nat.le_of_ble_eq_true rfl)⟩) hP hD hS hA rfl rfl (by decide) (by decide) (by decide) (Nat.le_of_ble_eq_true rfl) (Nat.le_of_ble_eq_true rfl) (fun r21_1 u21_2 H locs hp21_3 hP hD hS => ?_)
    have hp21_4 := hp21_3
    have hp21_4 : r21_1.toInt = v0.toInt / 4294967296 := hp21_4
    have hP : va_P D vwCl [(tl, .inr (10, [.ref tls, .ref o0, .ref p0, .int x_tl_3, .int x_tl_4])), (o0, .inr (5, [.ref o0r, .int x_o0_1])), (o0r, .inl (ct 1, 60000, .inl g_o0r))] _ := hP
    have hD : va_D A [(tl, .inr (10, [.ref tls, .ref o0, .ref p0, .int x_tl_3, .int x_tl_4])), (o0, .inr (5, [.ref o0r, .int x_o0_1])), (o0r, .inl (ct 1, 60000, .inl g_o0r))] := hD
    have hk24_1 : r21_1.toInt = kk.toInt := FF.mk (by have h1 := FF.out hq1; have h2 := FF.out hp21_4; omega)
    refine go_v (k1 := 0) (n1 := 0) (wr := []) [0, 1, 2] [] (rn_V (As := [.int 5, .int r21_1]) (rest := []) (c_X10_putNumber_w l D ct tl (5 : Int32) r21_1 tls o0 p0 x_tl_3 x_tl_4 o0r x_o0_1 g_o0r h_x_tl_3 (rg_w h_x_tl_4 (by decide)) h_x_o0_1 _) (cb_of (n := 2) hn mw_1315 mw_10 mw_1312 mhX10_putNumber ⟨(Nat.le_of_ble_eq_true rfl), (Nat.le_of_ble_eq_true rfl)⟩) hx hb hml hown hn hK hSK hZ hS mw_1314 mw_s148 (ci := 10) (q0 := 0) rfl rfl rfl rfl hl.1 (Nat.le_of_ble_eq_true rfl) dX10_putSide_24 ⟨(Nat.le_of_ble_eq_true rfl), (Nat.le_of_ble_eq_true rfl)⟩) hP hD hS hA rfl rfl (by decide) (by decide) (by decide) (Nat.le_of_ble_eq_true rfl) (Nat.le_of_ble_eq_true rfl) (fun u24_3 H locs hp24_4 hP hD hS => ?_)
    obtain ⟨y_tl_424_5, k_o0r24_6⟩ := u24_3
    obtain ⟨hp24_7, hp24_8, hp24_9, hp24_10⟩ := hp24_4
    have hp24_7 : rg y_tl_424_5 1 1000001 := hp24_7
    have hp24_8 : x_tl_4.toInt + 1 ≤ y_tl_424_5.toInt ∧ y_tl_424_5.toInt ≤ x_tl_4.toInt + 2 := hp24_8
    have hp24_9 : -2048 ≤ r21_1.toInt ∧ r21_1.toInt ≤ 2047 → y_tl_424_5.toInt = x_tl_4.toInt + 1 := hp24_9
    have hp24_10 : r21_1.toInt < -2048 ∨ 2047 < r21_1.toInt → y_tl_424_5.toInt = x_tl_4.toInt + 2 := hp24_10
    have hP : va_P D vwCl [(tl, .inr (10, [.ref tls, .ref o0, .ref p0, .int x_tl_3, .int y_tl_424_5])), (o0, .inr (5, [.ref o0r, .int x_o0_1])), (o0r, .inl (ct 1, 60000, .inl k_o0r24_6))] _ := hP
    have hD : va_D A [(tl, .inr (10, [.ref tls, .ref o0, .ref p0, .int x_tl_3, .int y_tl_424_5])), (o0, .inr (5, [.ref o0r, .int x_o0_1])), (o0r, .inl (ct 1, 60000, .inl k_o0r24_6))] := hD
    refine lv_iconst (v := 5) hx hb dX10_putSide_27 (by decide) ?_
    exact endq_i hQ hx hb hr hlocks dX10_putSide_28 rfl (y_tl_424_5, k_o0r24_6) ⟨(rg_w hp24_7 (by decide)), (show x_tl_4.toInt + 0 ≤ y_tl_424_5.toInt ∧ y_tl_424_5.toInt ≤ x_tl_4.toInt + 2 by have q0 := hp24_8; omega), (show (cc.toInt / 8) % 2 = 1 → y_tl_424_5.toInt = x_tl_4.toInt by have q0 := hk4_1; have q1 := hp4_7; have q2 := t7_2; have q3 := (show (0 : Int32).toInt = 0 from by decide); omega), (show (cc.toInt / 8) % 2 = 0 ∧ -2048 ≤ kk.toInt ∧ kk.toInt ≤ 2047 → y_tl_424_5.toInt = x_tl_4.toInt + 1 by have q0 := hk24_1; have q1 := hp24_9; omega), (show (cc.toInt / 8) % 2 = 0 ∧ (kk.toInt < -2048 ∨ 2047 < kk.toInt) → y_tl_424_5.toInt = x_tl_4.toInt + 2 by have q0 := hk24_1; have q1 := hp24_8; have q2 := hp24_10; omega)⟩ hP hD hS [0, 1, 2] rfl (by decide) rfl (Nat.le_of_ble_eq_true rfl) (Nat.le_of_ble_eq_true rfl)
  · have t7_2 := (i_ne c7_1)
    have r7_3 : rg r4_2 1 1 := rg_neAl t7_2 hp4_5 (show rg (0 : Int32) 0 0 from rg_l (by decide)) (by decide)
    refine lv_lload_n hx hb dX10_putSide_10 rfl (lv_at hl 1 rfl) ?_
    refine go_i (k1 := 0) (n1 := 0) (wr := [(tl, .inr (10, [.ref tls, .ref o0, .ref p0, .int x_tl_3, .int x_tl_4])), (o0, .inr (5, [.ref o0r, .int x_o0_1])), (o0r, .inl (ct 1, 60000, .inl g_o0r))]) [] [0, 1, 2] (rn_SN (As := [.long v0]) (rest := []) (c_X7_sOf l D ct v0  _) (cn_of (n := 1) hn mw_989 mw_7 mw_1321 mhX7_sOf ⟨(Nat.le_of_ble_eq_true rfl), (Nat.le_of_ble_eq_true rfl)⟩) hx hb hml hown hn hK hSK hZ hS mw_988 rfl hl.1 (Nat.le_of_ble_eq_true rfl) dX10_putSide_11 ⟨(Nat.le_of_ble_eq_true rfl), (Nat.le_of_ble_eq_true rfl)⟩) hP hD hS hA rfl rfl (by decide) (by decide) (by decide) (Nat.le_of_ble_eq_true rfl) (Nat.le_of_ble_eq_true rfl) (fun r11_1 u11_2 H locs hp11_3 hP hD hS => ?_)
    obtain ⟨hp11_4, hp11_5⟩ := hp11_3
    have hp11_4 : rg r11_1 0 15 := hp11_4
    have hp11_5 : r11_1.toInt = (v0.toInt / 4096) % 16 := hp11_5
    have hP : va_P D vwCl [(tl, .inr (10, [.ref tls, .ref o0, .ref p0, .int x_tl_3, .int x_tl_4])), (o0, .inr (5, [.ref o0r, .int x_o0_1])), (o0r, .inl (ct 1, 60000, .inl g_o0r))] _ := hP
    have hD : va_D A [(tl, .inr (10, [.ref tls, .ref o0, .ref p0, .int x_tl_3, .int x_tl_4])), (o0, .inr (5, [.ref o0r, .int x_o0_1])), (o0r, .inl (ct 1, 60000, .inl g_o0r))] := hD
    refine go_i (k1 := 0) (n1 := 0) (wr := [(tl, .inr (10, [.ref tls, .ref o0, .ref p0, .int x_tl_3, .int x_tl_4])), (o0, .inr (5, [.ref o0r, .int x_o0_1])), (o0r, .inl (ct 1, 60000, .inl g_o0r))]) [] [0, 1, 2] (rn_S (As := [.int r11_1]) (rest := []) (c_X10_placeOf l D ct r11_1  _) (cb_of (n := 1) hn mw_1308 mw_10 mw_1306 mhX10_placeOf ⟨(Nat.le_of_ble_eq_true rfl), (Nat.le_of_ble_eq_true rfl)⟩) hx hb hml hown hn hK hSK hZ hS mw_1307 rfl hl.1 (Nat.le_of_ble_eq_true rfl) dX10_putSide_14 ⟨(Nat.le_of_ble_eq_true rfl), (Nat.le_of_ble_eq_true rfl)⟩) hP hD hS hA rfl rfl (by decide) (by decide) (by decide) (Nat.le_of_ble_eq_true rfl) (Nat.le_of_ble_eq_true rfl) (fun r14_1 u14_2 H locs hp14_3 hP hD hS => ?_)
    have hP : va_P D vwCl [(tl, .inr (10, [.ref tls, .ref o0, .ref p0, .int x_tl_3, .int x_tl_4])), (o0, .inr (5, [.ref o0r, .int x_o0_1])), (o0r, .inl (ct 1, 60000, .inl g_o0r))] _ := hP
    have hD : va_D A [(tl, .inr (10, [.ref tls, .ref o0, .ref p0, .int x_tl_3, .int x_tl_4])), (o0, .inr (5, [.ref o0r, .int x_o0_1])), (o0r, .inl (ct 1, 60000, .inl g_o0r))] := hD
    exact endq_i hQ hx hb hr hlocks dX10_putSide_17 rfl (x_tl_4, g_o0r) ⟨(rg_w h_x_tl_4 (by decide)), (show x_tl_4.toInt + 0 ≤ x_tl_4.toInt ∧ x_tl_4.toInt ≤ x_tl_4.toInt + 2 by omega), (show (cc.toInt / 8) % 2 = 1 → x_tl_4.toInt = x_tl_4.toInt by omega), (show (cc.toInt / 8) % 2 = 0 ∧ -2048 ≤ kk.toInt ∧ kk.toInt ≤ 2047 → x_tl_4.toInt = x_tl_4.toInt + 1 by have q0 := r7_3.1; have q1 := r7_3.2; have q2 := hk4_1; have q3 := hp4_6; omega), (show (cc.toInt / 8) % 2 = 0 ∧ (kk.toInt < -2048 ∨ 2047 < kk.toInt) → x_tl_4.toInt = x_tl_4.toInt + 2 by have q0 := r7_3.1; have q1 := r7_3.2; have q2 := hk4_1; have q3 := hp4_6; omega)⟩ hP hD hS [0, 1, 2] rfl (by decide) rfl (Nat.le_of_ble_eq_true rfl) (Nat.le_of_ble_eq_true rfl)
set_option maxHeartbeats 2000000 in
theorem c_X10_turnOp_w (l : Launch) (D : va_G) (ct : Nat → ClassId) (d : Nat) (cc : Int32) (kk : Int32) (tl : Nat) (v0 : Int64) (tls : Nat) (o0 : Nat) (p0 : Nat) (x_tl_3 : Int32) (x_tl_4 : Int32) (o0r : Nat) (x_o0_1 : Int32) (g_o0r : Nat → Int32) (h_x_tl_3 : rg x_tl_3 0 1) (h_x_tl_4 : rg x_tl_4 0 999800) (h_x_o0_1 : rg x_o0_1 0 60000) (hq0 : cc.toInt = v0.toInt % 256) (hq1 : kk.toInt = v0.toInt / 4294967296) (hq2 : v0.toInt % 256 ≤ 207) (hg0 : TWop cc.toInt kk.toInt d) : KV (S := Int32 × (Nat → Int32)) l yX10_turnOp cX10_turnOp 9 none 4 91 D ct [.ref tl, .long v0] [(tl, .inr (10, [.ref tls, .ref o0, .ref p0, .int x_tl_3, .int x_tl_4])), (o0, .inr (5, [.ref o0r, .int x_o0_1])), (o0r, .inl (ct 1, 60000, .inl g_o0r))] 0 0 (fun (u : Int32 × (Nat → Int32)) => match u with | (y_tl_4, k_o0r) => rg y_tl_4 1 1000001 ∧ (x_tl_4.toInt + 1 ≤ y_tl_4.toInt ∧ y_tl_4.toInt ≤ x_tl_4.toInt + 9) ∧ (y_tl_4.toInt = x_tl_4.toInt + ((d : Nat) : Int))) (fun (u : Int32 × (Nat → Int32)) => match u with | (y_tl_4, k_o0r) => [(tl, .inr (10, [.ref tls, .ref o0, .ref p0, .int x_tl_3, .int y_tl_4])), (o0, .inr (5, [.ref o0r, .int x_o0_1])), (o0r, .inl (ct 1, 60000, .inl k_o0r))]) := by
  refine KVq_of (by decide) (Nat.le_of_ble_eq_true rfl) (fun p e s m below meth c A Q C0 hA H locs hS hP hD hQ ls hl => ?_)
  obtain ⟨hx, hb, hr, hown, hin, hml, hlocks, hn, hK, hZ, hSK⟩ := C0
  have hl : lv_has ls 9 [(0, .ref tl), (1, .long v0)] := hl
  obtain ⟨tw0_1_0, tw0_1_1, tw0_1_2, tw0_1_3, tw0_1_4, tw0_1_5, tw0_1_6, tw0_1_7, tw0_1_8, tw0_1_9, tw0_1_10, tw0_1_11, tw0_1_12, tw0_1_13, tw0_1_14, tw0_1_15, tw0_1_16, tw0_1_17, tw0_1_18, tw0_1_19, tw0_1_20, tw0_1_21, tw0_1_22, tw0_1_23⟩ := hg0
  have hk0_2 : ((cc.toInt / 8) % 2 = 1) ∨ ((cc.toInt / 8) % 2 = 0 ∧ (-2048 ≤ kk.toInt ∧ kk.toInt ≤ 2047)) ∨ ((cc.toInt / 8) % 2 = 0 ∧ (kk.toInt < -2048 ∨ 2047 < kk.toInt)) := FF.mk (by omega)
  have hk0_3 : (cc.toInt % 8 = 7 ∨ cc.toInt % 8 = 5) ∧ (cc.toInt / 8) % 2 = 1 ∧ cc.toInt / 16 = 11 → ((d : Nat) : Int) = 1 := FF.mk tw0_1_0
  have hk0_4 : (cc.toInt % 8 = 7 ∨ cc.toInt % 8 = 5) ∧ (cc.toInt / 8) % 2 = 1 ∧ cc.toInt / 16 = 8 → ((d : Nat) : Int) = 1 := FF.mk tw0_1_1
  have hk0_5 : (cc.toInt % 8 = 7 ∨ cc.toInt % 8 = 5) ∧ (cc.toInt / 8) % 2 = 1 ∧ cc.toInt / 16 = 3 → ((d : Nat) : Int) = 4 := FF.mk tw0_1_2
  have hk0_6 : (cc.toInt % 8 = 7 ∨ cc.toInt % 8 = 5) ∧ (cc.toInt / 8) % 2 = 1 ∧ cc.toInt / 16 ≠ 11 ∧ cc.toInt / 16 ≠ 8 ∧ cc.toInt / 16 ≠ 3 → ((d : Nat) : Int) = 1 := FF.mk tw0_1_3
  have hk0_7 : (cc.toInt % 8 = 7 ∨ cc.toInt % 8 = 5) ∧ (cc.toInt / 8) % 2 = 0 ∧ (-2048 ≤ kk.toInt ∧ kk.toInt ≤ 2047) ∧ cc.toInt / 16 = 11 → ((d : Nat) : Int) = 1 := FF.mk tw0_1_4
  have hk0_8 : (cc.toInt % 8 = 7 ∨ cc.toInt % 8 = 5) ∧ (cc.toInt / 8) % 2 = 0 ∧ (-2048 ≤ kk.toInt ∧ kk.toInt ≤ 2047) ∧ cc.toInt / 16 = 8 → ((d : Nat) : Int) = 1 := FF.mk tw0_1_5
  have hk0_9 : (cc.toInt % 8 = 7 ∨ cc.toInt % 8 = 5) ∧ (cc.toInt / 8) % 2 = 0 ∧ (-2048 ≤ kk.toInt ∧ kk.toInt ≤ 2047) ∧ cc.toInt / 16 = 3 → ((d : Nat) : Int) = 5 := FF.mk tw0_1_6
  have hk0_10 : (cc.toInt % 8 = 7 ∨ cc.toInt % 8 = 5) ∧ (cc.toInt / 8) % 2 = 0 ∧ (-2048 ≤ kk.toInt ∧ kk.toInt ≤ 2047) ∧ cc.toInt / 16 ≠ 11 ∧ cc.toInt / 16 ≠ 8 ∧ cc.toInt / 16 ≠ 3 → ((d : Nat) : Int) = 2 := FF.mk tw0_1_7
  have hk0_11 : (cc.toInt % 8 = 7 ∨ cc.toInt % 8 = 5) ∧ (cc.toInt / 8) % 2 = 0 ∧ (kk.toInt < -2048 ∨ 2047 < kk.toInt) ∧ cc.toInt / 16 = 11 → ((d : Nat) : Int) = 2 := FF.mk tw0_1_8
  have hk0_12 : (cc.toInt % 8 = 7 ∨ cc.toInt % 8 = 5) ∧ (cc.toInt / 8) % 2 = 0 ∧ (kk.toInt < -2048 ∨ 2047 < kk.toInt) ∧ cc.toInt / 16 = 8 → ((d : Nat) : Int) = 1 := FF.mk tw0_1_9
  have hk0_13 : (cc.toInt % 8 = 7 ∨ cc.toInt % 8 = 5) ∧ (cc.toInt / 8) % 2 = 0 ∧ (kk.toInt < -2048 ∨ 2047 < kk.toInt) ∧ cc.toInt / 16 = 3 → ((d : Nat) : Int) = 6 := FF.mk tw0_1_10
  have hk0_14 : (cc.toInt % 8 = 7 ∨ cc.toInt % 8 = 5) ∧ (cc.toInt / 8) % 2 = 0 ∧ (kk.toInt < -2048 ∨ 2047 < kk.toInt) ∧ cc.toInt / 16 ≠ 11 ∧ cc.toInt / 16 ≠ 8 ∧ cc.toInt / 16 ≠ 3 → ((d : Nat) : Int) = 3 := FF.mk tw0_1_11
  have hk0_15 : ¬ (cc.toInt % 8 = 7 ∨ cc.toInt % 8 = 5) ∧ (cc.toInt / 8) % 2 = 1 ∧ cc.toInt / 16 = 11 → ((d : Nat) : Int) = 3 := FF.mk tw0_1_12
  have hk0_16 : ¬ (cc.toInt % 8 = 7 ∨ cc.toInt % 8 = 5) ∧ (cc.toInt / 8) % 2 = 1 ∧ cc.toInt / 16 = 8 → ((d : Nat) : Int) = 3 := FF.mk tw0_1_13
  have hk0_17 : ¬ (cc.toInt % 8 = 7 ∨ cc.toInt % 8 = 5) ∧ (cc.toInt / 8) % 2 = 1 ∧ cc.toInt / 16 = 3 → ((d : Nat) : Int) = 7 := FF.mk tw0_1_14
  have hk0_18 : ¬ (cc.toInt % 8 = 7 ∨ cc.toInt % 8 = 5) ∧ (cc.toInt / 8) % 2 = 1 ∧ cc.toInt / 16 ≠ 11 ∧ cc.toInt / 16 ≠ 8 ∧ cc.toInt / 16 ≠ 3 → ((d : Nat) : Int) = 3 := FF.mk tw0_1_15
  have hk0_19 : ¬ (cc.toInt % 8 = 7 ∨ cc.toInt % 8 = 5) ∧ (cc.toInt / 8) % 2 = 0 ∧ (-2048 ≤ kk.toInt ∧ kk.toInt ≤ 2047) ∧ cc.toInt / 16 = 11 → ((d : Nat) : Int) = 3 := FF.mk tw0_1_16
  have hk0_20 : ¬ (cc.toInt % 8 = 7 ∨ cc.toInt % 8 = 5) ∧ (cc.toInt / 8) % 2 = 0 ∧ (-2048 ≤ kk.toInt ∧ kk.toInt ≤ 2047) ∧ cc.toInt / 16 = 8 → ((d : Nat) : Int) = 3 := FF.mk tw0_1_17
  have hk0_21 : ¬ (cc.toInt % 8 = 7 ∨ cc.toInt % 8 = 5) ∧ (cc.toInt / 8) % 2 = 0 ∧ (-2048 ≤ kk.toInt ∧ kk.toInt ≤ 2047) ∧ cc.toInt / 16 = 3 → ((d : Nat) : Int) = 8 := FF.mk tw0_1_18
  have hk0_22 : ¬ (cc.toInt % 8 = 7 ∨ cc.toInt % 8 = 5) ∧ (cc.toInt / 8) % 2 = 0 ∧ (-2048 ≤ kk.toInt ∧ kk.toInt ≤ 2047) ∧ cc.toInt / 16 ≠ 11 ∧ cc.toInt / 16 ≠ 8 ∧ cc.toInt / 16 ≠ 3 → ((d : Nat) : Int) = 4 := FF.mk tw0_1_19
  have hk0_23 : ¬ (cc.toInt % 8 = 7 ∨ cc.toInt % 8 = 5) ∧ (cc.toInt / 8) % 2 = 0 ∧ (kk.toInt < -2048 ∨ 2047 < kk.toInt) ∧ cc.toInt / 16 = 11 → ((d : Nat) : Int) = 4 := FF.mk tw0_1_20
  have hk0_24 : ¬ (cc.toInt % 8 = 7 ∨ cc.toInt % 8 = 5) ∧ (cc.toInt / 8) % 2 = 0 ∧ (kk.toInt < -2048 ∨ 2047 < kk.toInt) ∧ cc.toInt / 16 = 8 → ((d : Nat) : Int) = 3 := FF.mk tw0_1_21
  have hk0_25 : ¬ (cc.toInt % 8 = 7 ∨ cc.toInt % 8 = 5) ∧ (cc.toInt / 8) % 2 = 0 ∧ (kk.toInt < -2048 ∨ 2047 < kk.toInt) ∧ cc.toInt / 16 = 3 → ((d : Nat) : Int) = 9 := FF.mk tw0_1_22
  have hk0_26 : ¬ (cc.toInt % 8 = 7 ∨ cc.toInt % 8 = 5) ∧ (cc.toInt / 8) % 2 = 0 ∧ (kk.toInt < -2048 ∨ 2047 < kk.toInt) ∧ cc.toInt / 16 ≠ 11 ∧ cc.toInt / 16 ≠ 8 ∧ cc.toInt / 16 ≠ 3 → ((d : Nat) : Int) = 5 := FF.mk tw0_1_23
  refine lv_lload_n hx hb dX10_turnOp_0 rfl (lv_at hl 1 rfl) ?_
  refine go_i (k1 := 0) (n1 := 0) (wr := [(tl, .inr (10, [.ref tls, .ref o0, .ref p0, .int x_tl_3, .int x_tl_4])), (o0, .inr (5, [.ref o0r, .int x_o0_1])), (o0r, .inl (ct 1, 60000, .inl g_o0r))]) [] [0, 1, 2] (rn_SN (As := [.long v0]) (rest := []) (c_X7_codeOf l D ct v0  _) (cn_of (n := 1) hn mw_956 mw_7 mw_1299 mhX7_codeOf ⟨(Nat.le_of_ble_eq_true rfl), (Nat.le_of_ble_eq_true rfl)⟩) hx hb hml hown hn hK hSK hZ hS mw_955 rfl hl.1 (Nat.le_of_ble_eq_true rfl) dX10_turnOp_1 ⟨(Nat.le_of_ble_eq_true rfl), (Nat.le_of_ble_eq_true rfl)⟩) hP hD hS hA rfl rfl (by decide) (by decide) (by decide) (Nat.le_of_ble_eq_true rfl) (Nat.le_of_ble_eq_true rfl) (fun r1_1 u1_2 H locs hp1_3 hP hD hS => ?_)
  obtain ⟨hp1_4, hp1_5⟩ := hp1_3
  have hp1_4 : rg r1_1 0 255 := hp1_4
  have hp1_5 : r1_1.toInt = v0.toInt % 256 := hp1_5
  have hP : va_P D vwCl [(tl, .inr (10, [.ref tls, .ref o0, .ref p0, .int x_tl_3, .int x_tl_4])), (o0, .inr (5, [.ref o0r, .int x_o0_1])), (o0r, .inl (ct 1, 60000, .inl g_o0r))] _ := hP
  have hD : va_D A [(tl, .inr (10, [.ref tls, .ref o0, .ref p0, .int x_tl_3, .int x_tl_4])), (o0, .inr (5, [.ref o0r, .int x_o0_1])), (o0r, .inl (ct 1, 60000, .inl g_o0r))] := hD
  have hk4_1 : r1_1.toInt = cc.toInt := FF.mk (by have h1 := FF.out hq0; have h2 := FF.out hp1_5; omega)
  refine lv_istore_n (lv' := [(3, .int r1_1), (0, .ref tl), (1, .long v0)]) hx hb dX10_turnOp_4 rfl hl (by decide) rfl (fun ls hl => ?_)
  refine lv_iload_n hx hb dX10_turnOp_5 rfl (lv_at hl 0 rfl) ?_
  refine lv_iconst (v := 4) hx hb dX10_turnOp_6 (by decide) ?_
  refine lv_ishr hx hb dX10_turnOp_7 ?_
  refine lv_topi (fun z7_1 ez7_1 => ?_)
  have r7_2 : rg z7_1 0 15 := rg_shr (k := 4) ez7_1 (by decide) hp1_4 (by decide)
  refine lv_istore (lv' := [(4, .int z7_1), (3, .int r1_1), (0, .ref tl), (1, .long v0)]) hx hb dX10_turnOp_8 hl (by decide) rfl (fun ls hl => ?_)
  refine lv_lload_n hx hb dX10_turnOp_10 rfl (lv_at hl 3 rfl) ?_
  refine go_i (k1 := 0) (n1 := 0) (wr := [(tl, .inr (10, [.ref tls, .ref o0, .ref p0, .int x_tl_3, .int x_tl_4])), (o0, .inr (5, [.ref o0r, .int x_o0_1])), (o0r, .inl (ct 1, 60000, .inl g_o0r))]) [] [0, 1, 2] (rn_SN (As := [.long v0]) (rest := []) (c_X7_dOf l D ct v0  _) (cn_of (n := 1) hn mw_986 mw_7 mw_1305 mhX7_dOf ⟨(Nat.le_of_ble_eq_true rfl), (Nat.le_of_ble_eq_true rfl)⟩) hx hb hml hown hn hK hSK hZ hS mw_985 rfl hl.1 (Nat.le_of_ble_eq_true rfl) dX10_turnOp_11 ⟨(Nat.le_of_ble_eq_true rfl), (Nat.le_of_ble_eq_true rfl)⟩) hP hD hS hA rfl rfl (by decide) (by decide) (by decide) (Nat.le_of_ble_eq_true rfl) (Nat.le_of_ble_eq_true rfl) (fun r11_1 u11_2 H locs hp11_3 hP hD hS => ?_)
  obtain ⟨hp11_4, hp11_5⟩ := hp11_3
  have hp11_4 : rg r11_1 0 15 := hp11_4
  have hp11_5 : r11_1.toInt = (v0.toInt / 256) % 16 := hp11_5
  have hP : va_P D vwCl [(tl, .inr (10, [.ref tls, .ref o0, .ref p0, .int x_tl_3, .int x_tl_4])), (o0, .inr (5, [.ref o0r, .int x_o0_1])), (o0r, .inl (ct 1, 60000, .inl g_o0r))] _ := hP
  have hD : va_D A [(tl, .inr (10, [.ref tls, .ref o0, .ref p0, .int x_tl_3, .int x_tl_4])), (o0, .inr (5, [.ref o0r, .int x_o0_1])), (o0r, .inl (ct 1, 60000, .inl g_o0r))] := hD
  refine go_i (k1 := 0) (n1 := 0) (wr := [(tl, .inr (10, [.ref tls, .ref o0, .ref p0, .int x_tl_3, .int x_tl_4])), (o0, .inr (5, [.ref o0r, .int x_o0_1])), (o0r, .inl (ct 1, 60000, .inl g_o0r))]) [] [0, 1, 2] (rn_S (As := [.int r11_1]) (rest := []) (c_X10_placeOf l D ct r11_1  _) (cb_of (n := 1) hn mw_1308 mw_10 mw_1306 mhX10_placeOf ⟨(Nat.le_of_ble_eq_true rfl), (Nat.le_of_ble_eq_true rfl)⟩) hx hb hml hown hn hK hSK hZ hS mw_1307 rfl hl.1 (Nat.le_of_ble_eq_true rfl) dX10_turnOp_14 ⟨(Nat.le_of_ble_eq_true rfl), (Nat.le_of_ble_eq_true rfl)⟩) hP hD hS hA rfl rfl (by decide) (by decide) (by decide) (Nat.le_of_ble_eq_true rfl) (Nat.le_of_ble_eq_true rfl) (fun r14_1 u14_2 H locs hp14_3 hP hD hS => ?_)
  have hP : va_P D vwCl [(tl, .inr (10, [.ref tls, .ref o0, .ref p0, .int x_tl_3, .int x_tl_4])), (o0, .inr (5, [.ref o0r, .int x_o0_1])), (o0r, .inl (ct 1, 60000, .inl g_o0r))] _ := hP
  have hD : va_D A [(tl, .inr (10, [.ref tls, .ref o0, .ref p0, .int x_tl_3, .int x_tl_4])), (o0, .inr (5, [.ref o0r, .int x_o0_1])), (o0r, .inl (ct 1, 60000, .inl g_o0r))] := hD
  refine lv_istore (lv' := [(5, .int r14_1), (4, .int z7_1), (3, .int r1_1), (0, .ref tl), (1, .long v0)]) hx hb dX10_turnOp_17 hl (by decide) rfl (fun ls hl => ?_)
  refine lv_iload_n hx hb dX10_turnOp_19 rfl (lv_at hl 2 rfl) ?_
  refine go_i (k1 := 0) (n1 := 0) (wr := [(tl, .inr (10, [.ref tls, .ref o0, .ref p0, .int x_tl_3, .int x_tl_4])), (o0, .inr (5, [.ref o0r, .int x_o0_1])), (o0r, .inl (ct 1, 60000, .inl g_o0r))]) [] [0, 1, 2] (rn_SN (As := [.int r1_1]) (rest := []) (c_X7_isWide_w l D ct r1_1 hp1_4 _) (cn_of (n := 1) hn mw_1062 mw_7 mw_1309 mhX7_isWide ⟨(Nat.le_of_ble_eq_true rfl), (Nat.le_of_ble_eq_true rfl)⟩) hx hb hml hown hn hK hSK hZ hS mw_1061 rfl hl.1 (Nat.le_of_ble_eq_true rfl) dX10_turnOp_20 ⟨(Nat.le_of_ble_eq_true rfl), (Nat.le_of_ble_eq_true rfl)⟩) hP hD hS hA rfl rfl (by decide) (by decide) (by decide) (Nat.le_of_ble_eq_true rfl) (Nat.le_of_ble_eq_true rfl) (fun r20_1 u20_2 H locs hp20_3 hP hD hS => ?_)
  obtain ⟨hp20_4, hp20_5, hp20_6⟩ := hp20_3
  have hp20_4 : rg r20_1 0 1 := hp20_4
  have hp20_5 : r20_1.toInt = 1 → r1_1.toInt % 8 = 7 ∨ r1_1.toInt % 8 = 5 := hp20_5
  have hp20_6 : r20_1.toInt = 0 → ¬ (r1_1.toInt % 8 = 7 ∨ r1_1.toInt % 8 = 5) := hp20_6
  have hP : va_P D vwCl [(tl, .inr (10, [.ref tls, .ref o0, .ref p0, .int x_tl_3, .int x_tl_4])), (o0, .inr (5, [.ref o0r, .int x_o0_1])), (o0r, .inl (ct 1, 60000, .inl g_o0r))] _ := hP
  have hD : va_D A [(tl, .inr (10, [.ref tls, .ref o0, .ref p0, .int x_tl_3, .int x_tl_4])), (o0, .inr (5, [.ref o0r, .int x_o0_1])), (o0r, .inl (ct 1, 60000, .inl g_o0r))] := hD
  refine lv_istore (lv' := [(6, .int r20_1), (5, .int r14_1), (4, .int z7_1), (3, .int r1_1), (0, .ref tl), (1, .long v0)]) hx hb dX10_turnOp_23 hl (by decide) rfl (fun ls hl => ?_)
  refine lv_iload hx hb dX10_turnOp_25 (lv_at hl 2 rfl) ?_
  refine lv_bipush (v := 11) hx hb dX10_turnOp_27 (by decide) ?_
  refine lv_icmp_ne (tgt := 52) hx hb dX10_turnOp_29 (by decide) (fun c29_1 => ?_) (fun c29_1 => ?_)
  · have t29_2 := (i_ne c29_1)
    refine lv_iload hx hb dX10_turnOp_52 (lv_at hl 2 rfl) ?_
    refine lv_bipush (v := 11) hx hb dX10_turnOp_54 (by decide) ?_
    refine lv_icmp_ne (tgt := 76) hx hb dX10_turnOp_56 (by decide) (fun c56_1 => ?_) (fun c56_1 => ?_)
    · have t56_2 := (i_ne c56_1)
      refine lv_iload hx hb dX10_turnOp_76 (lv_at hl 2 rfl) ?_
      refine lv_bipush (v := 8) hx hb dX10_turnOp_78 (by decide) ?_
      refine lv_icmp_ne (tgt := 110) hx hb dX10_turnOp_80 (by decide) (fun c80_1 => ?_) (fun c80_1 => ?_)
      · have t80_2 := (i_ne c80_1)
        refine lv_iload hx hb dX10_turnOp_110 (lv_at hl 2 rfl) ?_
        refine lv_iconst (v := 3) hx hb dX10_turnOp_112 (by decide) ?_
        refine lv_icmp_ne (tgt := 132) hx hb dX10_turnOp_113 (by decide) (fun c113_1 => ?_) (fun c113_1 => ?_)
        · have t113_2 := (i_ne c113_1)
          refine lv_aload_n hx hb dX10_turnOp_132 rfl (lv_at hl 4 rfl) ?_
          refine lv_lload_n hx hb dX10_turnOp_133 rfl (lv_at hl 5 rfl) ?_
          refine go_i (k1 := 0) (n1 := 0) (wr := []) [0, 1, 2] [] (rn_V (As := [.long v0]) (rest := []) (c_X10_putSide_w l D ct cc kk tl v0 tls o0 p0 x_tl_3 x_tl_4 o0r x_o0_1 g_o0r h_x_tl_3 (rg_w h_x_tl_4 (by decide)) h_x_o0_1 (show cc.toInt = v0.toInt % 256 by have q0 := hp1_5; have q1 := hk4_1; omega) (show kk.toInt = v0.toInt / 4294967296 by have q0 := (rl_any v0).1; have q1 := (rl_any v0).2; have q2 := (rg_any kk).1; have q3 := (rg_any kk).2; have q4 := (rg_any cc).1; have q5 := (rg_any cc).2; have q6 := hp1_4.1; have q7 := hp1_4.2; have q8 := hp11_4.1; have q9 := hp11_4.2; have q10 := hp20_4.1; have q11 := hp20_4.2; have q12 := (show rg (11 : Int32) 11 11 from rg_l (by decide)).1; have q13 := (show rg (11 : Int32) 11 11 from rg_l (by decide)).2; have q14 := r7_2.1; have q15 := r7_2.2; have q16 := (eq_shr (c := 16) (k := 4) ez7_1 (by decide) (by decide)); have q17 := (show rg (8 : Int32) 8 8 from rg_l (by decide)).1; have q18 := (show rg (8 : Int32) 8 8 from rg_l (by decide)).2; have q19 := (show rg (3 : Int32) 3 3 from rg_l (by decide)).1; have q20 := (show rg (3 : Int32) 3 3 from rg_l (by decide)).2; have q21 := hq0; have q22 := hq1; have q23 := hq2; have q24 := hk0_2; have q25 := hk0_3; have q26 := hk0_4; have q27 := hk0_5; have q28 := hk0_6; have q29 := hk0_7; have q30 := hk0_8; have q31 := hk0_9; have q32 := hk0_10; have q33 := hk0_11; have q34 := hk0_12; have q35 := hk0_13; have q36 := hk0_14; have q37 := hk0_15; have q38 := hk0_16; have q39 := hk0_17; have q40 := hk0_18; have q41 := hk0_19; have q42 := hk0_20; have q43 := hk0_21; have q44 := hk0_22; have q45 := hk0_23; have q46 := hk0_24; have q47 := hk0_25; have q48 := hk0_26; have q49 := hp1_5; have q50 := hk4_1; have q51 := hp11_5; have q52 := hp20_5; have q53 := hp20_6; have q54 := t29_2; have q55 := t56_2; have q56 := t80_2; have q57 := t113_2; have q58 := (show (11 : Int32).toInt = 11 from by decide); have q59 := (show (3 : Int32).toInt = 3 from by decide); have q60 := (show (8 : Int32).toInt = 8 from by decide); omega) _) (cb_of (n := 1) hn mw_1333 mw_10 mw_1330 mhX10_putSide ⟨(Nat.le_of_ble_eq_true rfl), (Nat.le_of_ble_eq_true rfl)⟩) hx hb hml hown hn hK hSK hZ hS mw_1332 mw_s152 (ci := 10) (q0 := 0) rfl rfl rfl rfl hl.1 (Nat.le_of_ble_eq_true rfl) dX10_turnOp_134 ⟨(Nat.le_of_ble_eq_true rfl), (Nat.le_of_ble_eq_true rfl)⟩) hP hD hS hA rfl rfl (by decide) (by decide) (by decide) (Nat.le_of_ble_eq_true rfl) (Nat.le_of_ble_eq_true rfl) (fun r134_1 u134_2 H locs hp134_3 hP hD hS => ?_)
          obtain ⟨y_tl_4134_4, k_o0r134_5⟩ := u134_2
          obtain ⟨hp134_6, hp134_7, hp134_8, hp134_9, hp134_10⟩ := hp134_3
          have hp134_6 : rg y_tl_4134_4 0 1000001 := hp134_6
          have hp134_7 : x_tl_4.toInt + 0 ≤ y_tl_4134_4.toInt ∧ y_tl_4134_4.toInt ≤ x_tl_4.toInt + 2 := hp134_7
          have hp134_8 : (cc.toInt / 8) % 2 = 1 → y_tl_4134_4.toInt = x_tl_4.toInt := hp134_8
          have hp134_9 : (cc.toInt / 8) % 2 = 0 ∧ -2048 ≤ kk.toInt ∧ kk.toInt ≤ 2047 → y_tl_4134_4.toInt = x_tl_4.toInt + 1 := hp134_9
          have hp134_10 : (cc.toInt / 8) % 2 = 0 ∧ (kk.toInt < -2048 ∨ 2047 < kk.toInt) → y_tl_4134_4.toInt = x_tl_4.toInt + 2 := hp134_10
          have hP : va_P D vwCl [(tl, .inr (10, [.ref tls, .ref o0, .ref p0, .int x_tl_3, .int y_tl_4134_4])), (o0, .inr (5, [.ref o0r, .int x_o0_1])), (o0r, .inl (ct 1, 60000, .inl k_o0r134_5))] _ := hP
          have hD : va_D A [(tl, .inr (10, [.ref tls, .ref o0, .ref p0, .int x_tl_3, .int y_tl_4134_4])), (o0, .inr (5, [.ref o0r, .int x_o0_1])), (o0r, .inl (ct 1, 60000, .inl k_o0r134_5))] := hD
          refine lv_istore (lv' := [(7, .int r134_1), (6, .int r20_1), (5, .int r14_1), (4, .int z7_1), (3, .int r1_1), (0, .ref tl), (1, .long v0)]) hx hb dX10_turnOp_137 hl (by decide) rfl (fun ls hl => ?_)
          refine lv_iload hx hb dX10_turnOp_139 (lv_at hl 1 rfl) ?_
          refine lv_if_ne (tgt := 163) hx hb dX10_turnOp_141 (by decide) (fun c141_1 => ?_) (fun c141_1 => ?_)
          · have t141_2 := (i_ne c141_1)
            have r141_3 : rg r20_1 1 1 := rg_neAl t141_2 hp20_4 (show rg (0 : Int32) 0 0 from rg_l (by decide)) (by decide)
            refine lv_iconst (v := 1) hx hb dX10_turnOp_163 (by decide) ?_
            refine lv_goto (tgt := 168) hx hb dX10_turnOp_164 (by decide) ?_
            refine lv_istore (lv' := [(8, .int 1), (7, .int r134_1), (6, .int r20_1), (5, .int r14_1), (4, .int z7_1), (3, .int r1_1), (0, .ref tl), (1, .long v0)]) hx hb dX10_turnOp_168 hl (by decide) rfl (fun ls hl => ?_)
            refine lv_aload_n hx hb dX10_turnOp_170 rfl (lv_at hl 6 rfl) ?_
            refine lv_iload hx hb dX10_turnOp_171 (lv_at hl 0 rfl) ?_
            refine lv_if_eq (tgt := 181) hx hb dX10_turnOp_173 (by decide) (fun c173_1 => absurd c173_1 (by decide)) (fun c173_1 => ?_)
            refine lv_bipush (v := 51) hx hb dX10_turnOp_176 (by decide) ?_
            refine lv_goto (tgt := 183) hx hb dX10_turnOp_178 (by decide) ?_
            obtain ⟨ts183_1, fs183_1, hs183_1, gs183_1⟩ := hZ.2.1
            refine va_gets hx hb hs183_1 hS hown (hn.get mw_1351 rfl) (fun _ h9 => h9) dX10_turnOp_183 ?_
            refine lv_iload hx hb dX10_turnOp_186 (lv_at hl 4 rfl) ?_
            refine va_ti hx hb gs183_1 hS (in_of (show 0 ≤ z7_1.toInt ∧ z7_1.toInt < 13 by have q0 := (eq_shr (c := 16) (k := 4) ez7_1 (by decide) (by decide)); have q1 := hq2; have q2 := hp1_5; omega)) (v := .int (fs183_1 z7_1.toNatClampNeg)) rfl dX10_turnOp_188 ?_
            refine lv_topi (fun z188_1 ez188_1 => ?_)
            obtain ⟨ts189_1, fs189_1, hs189_1, gs189_1⟩ := hZ.2.2.1
            refine va_gets hx hb hs189_1 hS hown (hn.get mw_1353 rfl) (fun _ h9 => h9) dX10_turnOp_189 ?_
            refine lv_iload hx hb dX10_turnOp_192 (lv_at hl 4 rfl) ?_
            refine va_ti hx hb gs189_1 hS (in_of (show 0 ≤ z7_1.toInt ∧ z7_1.toInt < 13 by have q0 := (eq_shr (c := 16) (k := 4) ez7_1 (by decide) (by decide)); have q1 := hq2; have q2 := hp1_5; omega)) (v := .int (fs189_1 z7_1.toNatClampNeg)) rfl dX10_turnOp_194 ?_
            refine lv_topi (fun z194_1 ez194_1 => ?_)
            refine lv_iload hx hb dX10_turnOp_195 (lv_at hl 3 rfl) ?_
            refine lv_iload hx hb dX10_turnOp_197 (lv_at hl 3 rfl) ?_
            refine lv_iload hx hb dX10_turnOp_199 (lv_at hl 1 rfl) ?_
            refine go_v (k1 := 0) (n1 := 0) (wr := []) [0, 1, 2] [] (rn_V (As := [.int 51, .int z188_1, .int z194_1, .int r14_1, .int r14_1, .int r134_1]) (rest := []) (c_X10_putOp l D ct tl (51 : Int32) z188_1 z194_1 r14_1 r14_1 r134_1 tls o0 p0 x_tl_3 y_tl_4134_4 o0r x_o0_1 k_o0r134_5 h_x_tl_3 (rg_of (show 0 ≤ y_tl_4134_4.toInt ∧ y_tl_4134_4.toInt ≤ 999990 by have q0 := h_x_tl_4.1; have q1 := h_x_tl_4.2; have q2 := hp134_7; omega)) h_x_o0_1 _) (cb_of (n := 6) hn mw_1329 mw_10 mw_1326 mhX10_putOp ⟨(Nat.le_of_ble_eq_true rfl), (Nat.le_of_ble_eq_true rfl)⟩) hx hb hml hown hn hK hSK hZ hS mw_1328 mw_s151 (ci := 10) (q0 := 0) rfl rfl rfl rfl hl.1 (Nat.le_of_ble_eq_true rfl) dX10_turnOp_201 ⟨(Nat.le_of_ble_eq_true rfl), (Nat.le_of_ble_eq_true rfl)⟩) hP hD hS hA rfl rfl (by decide) (by decide) (by decide) (Nat.le_of_ble_eq_true rfl) (Nat.le_of_ble_eq_true rfl) (fun u201_2 H locs hp201_3 hP hD hS => ?_)
            obtain ⟨y_tl_4201_4, k_o0r201_5⟩ := u201_2
            obtain ⟨hp201_6, hp201_7⟩ := hp201_3
            have hp201_6 : rg y_tl_4201_4 1 1000001 := hp201_6
            have hp201_7 : y_tl_4201_4.toInt = y_tl_4134_4.toInt + 1 := hp201_7
            have hP : va_P D vwCl [(tl, .inr (10, [.ref tls, .ref o0, .ref p0, .int x_tl_3, .int y_tl_4201_4])), (o0, .inr (5, [.ref o0r, .int x_o0_1])), (o0r, .inl (ct 1, 60000, .inl k_o0r201_5))] _ := hP
            have hD : va_D A [(tl, .inr (10, [.ref tls, .ref o0, .ref p0, .int x_tl_3, .int y_tl_4201_4])), (o0, .inr (5, [.ref o0r, .int x_o0_1])), (o0r, .inl (ct 1, 60000, .inl k_o0r201_5))] := hD
            refine lv_iload hx hb dX10_turnOp_204 (lv_at hl 2 rfl) ?_
            refine lv_if_ne (tgt := 215) hx hb dX10_turnOp_206 (by decide) (fun c206_1 => ?_) (fun c206_1 => ?_)
            · have t206_2 := (i_ne c206_1)
              exact endq_v hQ hx hb hr hlocks dX10_turnOp_215 (y_tl_4201_4, k_o0r201_5) ⟨hp201_6, (show x_tl_4.toInt + 1 ≤ y_tl_4201_4.toInt ∧ y_tl_4201_4.toInt ≤ x_tl_4.toInt + 9 by have q0 := hp134_7; have q1 := hp201_7; omega), (show y_tl_4201_4.toInt = x_tl_4.toInt + ((d : Nat) : Int) by have q0 := r141_3.1; have q1 := r141_3.2; have q2 := (eq_shr (c := 16) (k := 4) ez7_1 (by decide) (by decide)); have q3 := hk0_2; have q4 := hk0_6; have q5 := hk0_10; have q6 := hk0_14; have q7 := hk4_1; have q8 := hp20_5; have q9 := t29_2; have q10 := t80_2; have q11 := t113_2; have q12 := hp134_7; have q13 := hp134_8; have q14 := hp134_9; have q15 := hp134_10; have q16 := hp201_7; have q17 := (show (11 : Int32).toInt = 11 from by decide); have q18 := (show (3 : Int32).toInt = 3 from by decide); have q19 := (show (8 : Int32).toInt = 8 from by decide); omega)⟩ hP hD hS [0, 1, 2] rfl (by decide) rfl (Nat.le_of_ble_eq_true rfl) (Nat.le_of_ble_eq_true rfl)
            · exact absurd (i_eq c206_1) (rg_eqX r141_3 (show rg (0 : Int32) 0 0 from rg_l (by decide)) (by decide))
          · have t141_2 := (i_eq c141_1)
            have r141_3 : rg r20_1 0 0 := rg_eqA t141_2 hp20_4 (show rg (0 : Int32) 0 0 from rg_l (by decide)) (by decide)
            refine lv_iload hx hb dX10_turnOp_144 (lv_at hl 3 rfl) ?_
            refine lv_iconst (v := 4) hx hb dX10_turnOp_146 (by decide) ?_
            refine lv_icmp_eq (tgt := 163) hx hb dX10_turnOp_147 (by decide) (fun c147_1 => ?_) (fun c147_1 => ?_)
            · have t147_2 := (i_eq c147_1)
              have r147_3 : rg z7_1 4 4 := rg_eqA t147_2 r7_2 (show rg (4 : Int32) 4 4 from rg_l (by decide)) (by decide)
              refine lv_iconst (v := 1) hx hb dX10_turnOp_163 (by decide) ?_
              refine lv_goto (tgt := 168) hx hb dX10_turnOp_164 (by decide) ?_
              refine lv_istore (lv' := [(8, .int 1), (7, .int r134_1), (6, .int r20_1), (5, .int r14_1), (4, .int z7_1), (3, .int r1_1), (0, .ref tl), (1, .long v0)]) hx hb dX10_turnOp_168 hl (by decide) rfl (fun ls hl => ?_)
              refine lv_aload_n hx hb dX10_turnOp_170 rfl (lv_at hl 6 rfl) ?_
              refine lv_iload hx hb dX10_turnOp_171 (lv_at hl 0 rfl) ?_
              refine lv_if_eq (tgt := 181) hx hb dX10_turnOp_173 (by decide) (fun c173_1 => absurd c173_1 (by decide)) (fun c173_1 => ?_)
              refine lv_bipush (v := 51) hx hb dX10_turnOp_176 (by decide) ?_
              refine lv_goto (tgt := 183) hx hb dX10_turnOp_178 (by decide) ?_
              obtain ⟨ts183_1, fs183_1, hs183_1, gs183_1⟩ := hZ.2.1
              refine va_gets hx hb hs183_1 hS hown (hn.get mw_1351 rfl) (fun _ h9 => h9) dX10_turnOp_183 ?_
              refine lv_iload hx hb dX10_turnOp_186 (lv_at hl 4 rfl) ?_
              refine va_ti hx hb gs183_1 hS (in_rg r147_3 (by decide)) (v := .int (fs183_1 z7_1.toNatClampNeg)) rfl dX10_turnOp_188 ?_
              refine lv_topi (fun z188_1 ez188_1 => ?_)
              obtain ⟨ts189_1, fs189_1, hs189_1, gs189_1⟩ := hZ.2.2.1
              refine va_gets hx hb hs189_1 hS hown (hn.get mw_1353 rfl) (fun _ h9 => h9) dX10_turnOp_189 ?_
              refine lv_iload hx hb dX10_turnOp_192 (lv_at hl 4 rfl) ?_
              refine va_ti hx hb gs189_1 hS (in_rg r147_3 (by decide)) (v := .int (fs189_1 z7_1.toNatClampNeg)) rfl dX10_turnOp_194 ?_
              refine lv_topi (fun z194_1 ez194_1 => ?_)
              refine lv_iload hx hb dX10_turnOp_195 (lv_at hl 3 rfl) ?_
              refine lv_iload hx hb dX10_turnOp_197 (lv_at hl 3 rfl) ?_
              refine lv_iload hx hb dX10_turnOp_199 (lv_at hl 1 rfl) ?_
              refine go_v (k1 := 0) (n1 := 0) (wr := []) [0, 1, 2] [] (rn_V (As := [.int 51, .int z188_1, .int z194_1, .int r14_1, .int r14_1, .int r134_1]) (rest := []) (c_X10_putOp l D ct tl (51 : Int32) z188_1 z194_1 r14_1 r14_1 r134_1 tls o0 p0 x_tl_3 y_tl_4134_4 o0r x_o0_1 k_o0r134_5 h_x_tl_3 (rg_of (show 0 ≤ y_tl_4134_4.toInt ∧ y_tl_4134_4.toInt ≤ 999990 by have q0 := h_x_tl_4.1; have q1 := h_x_tl_4.2; have q2 := hp134_7; omega)) h_x_o0_1 _) (cb_of (n := 6) hn mw_1329 mw_10 mw_1326 mhX10_putOp ⟨(Nat.le_of_ble_eq_true rfl), (Nat.le_of_ble_eq_true rfl)⟩) hx hb hml hown hn hK hSK hZ hS mw_1328 mw_s151 (ci := 10) (q0 := 0) rfl rfl rfl rfl hl.1 (Nat.le_of_ble_eq_true rfl) dX10_turnOp_201 ⟨(Nat.le_of_ble_eq_true rfl), (Nat.le_of_ble_eq_true rfl)⟩) hP hD hS hA rfl rfl (by decide) (by decide) (by decide) (Nat.le_of_ble_eq_true rfl) (Nat.le_of_ble_eq_true rfl) (fun u201_2 H locs hp201_3 hP hD hS => ?_)
              obtain ⟨y_tl_4201_4, k_o0r201_5⟩ := u201_2
              obtain ⟨hp201_6, hp201_7⟩ := hp201_3
              have hp201_6 : rg y_tl_4201_4 1 1000001 := hp201_6
              have hp201_7 : y_tl_4201_4.toInt = y_tl_4134_4.toInt + 1 := hp201_7
              have hP : va_P D vwCl [(tl, .inr (10, [.ref tls, .ref o0, .ref p0, .int x_tl_3, .int y_tl_4201_4])), (o0, .inr (5, [.ref o0r, .int x_o0_1])), (o0r, .inl (ct 1, 60000, .inl k_o0r201_5))] _ := hP
              have hD : va_D A [(tl, .inr (10, [.ref tls, .ref o0, .ref p0, .int x_tl_3, .int y_tl_4201_4])), (o0, .inr (5, [.ref o0r, .int x_o0_1])), (o0r, .inl (ct 1, 60000, .inl k_o0r201_5))] := hD
              refine lv_iload hx hb dX10_turnOp_204 (lv_at hl 2 rfl) ?_
              refine lv_if_ne (tgt := 215) hx hb dX10_turnOp_206 (by decide) (fun c206_1 => ?_) (fun c206_1 => ?_)
              · exact absurd (i_ne c206_1) (rg_neX r141_3 (show rg (0 : Int32) 0 0 from rg_l (by decide)) (by decide))
              · have t206_2 := (i_eq c206_1)
                refine lv_aload_n hx hb dX10_turnOp_209 rfl (lv_at hl 6 rfl) ?_
                refine lv_iload hx hb dX10_turnOp_210 (lv_at hl 3 rfl) ?_
                refine go_v (k1 := 0) (n1 := 0) (wr := []) [0, 1, 2] [] (rn_V (As := [.int r14_1]) (rest := []) (c_X10_putCut l D ct tl r14_1 tls o0 p0 x_tl_3 y_tl_4201_4 o0r x_o0_1 k_o0r201_5 h_x_tl_3 (rg_of (show 0 ≤ y_tl_4201_4.toInt ∧ y_tl_4201_4.toInt ≤ 999950 by have q0 := h_x_tl_4.1; have q1 := h_x_tl_4.2; have q2 := hp134_7; have q3 := hp201_7; omega)) h_x_o0_1 _) (cb_of (n := 1) hn mw_1358 mw_10 mw_1355 mhX10_putCut ⟨(Nat.le_of_ble_eq_true rfl), (Nat.le_of_ble_eq_true rfl)⟩) hx hb hml hown hn hK hSK hZ hS mw_1357 mw_s157 (ci := 10) (q0 := 0) rfl rfl rfl rfl hl.1 (Nat.le_of_ble_eq_true rfl) dX10_turnOp_212 ⟨(Nat.le_of_ble_eq_true rfl), (Nat.le_of_ble_eq_true rfl)⟩) hP hD hS hA rfl rfl (by decide) (by decide) (by decide) (Nat.le_of_ble_eq_true rfl) (Nat.le_of_ble_eq_true rfl) (fun u212_2 H locs hp212_3 hP hD hS => ?_)
                obtain ⟨y_tl_4212_4, k_o0r212_5⟩ := u212_2
                obtain ⟨hp212_6, hp212_7⟩ := hp212_3
                have hp212_6 : rg y_tl_4212_4 1 1000001 := hp212_6
                have hp212_7 : y_tl_4212_4.toInt = y_tl_4201_4.toInt + 2 := hp212_7
                have hP : va_P D vwCl [(tl, .inr (10, [.ref tls, .ref o0, .ref p0, .int x_tl_3, .int y_tl_4212_4])), (o0, .inr (5, [.ref o0r, .int x_o0_1])), (o0r, .inl (ct 1, 60000, .inl k_o0r212_5))] _ := hP
                have hD : va_D A [(tl, .inr (10, [.ref tls, .ref o0, .ref p0, .int x_tl_3, .int y_tl_4212_4])), (o0, .inr (5, [.ref o0r, .int x_o0_1])), (o0r, .inl (ct 1, 60000, .inl k_o0r212_5))] := hD
                exact endq_v hQ hx hb hr hlocks dX10_turnOp_215 (y_tl_4212_4, k_o0r212_5) ⟨hp212_6, (show x_tl_4.toInt + 1 ≤ y_tl_4212_4.toInt ∧ y_tl_4212_4.toInt ≤ x_tl_4.toInt + 9 by have q0 := hp134_7; have q1 := hp201_7; have q2 := hp212_7; omega), (show y_tl_4212_4.toInt = x_tl_4.toInt + ((d : Nat) : Int) by have q0 := r147_3.1; have q1 := r147_3.2; have q2 := (eq_shr (c := 16) (k := 4) ez7_1 (by decide) (by decide)); have q3 := hk0_2; have q4 := hk0_18; have q5 := hk0_22; have q6 := hk0_26; have q7 := hk4_1; have q8 := hp20_6; have q9 := hp134_7; have q10 := hp134_8; have q11 := hp134_9; have q12 := hp134_10; have q13 := hp201_7; have q14 := t206_2; have q15 := hp212_7; have q16 := (show (0 : Int32).toInt = 0 from by decide); omega)⟩ hP hD hS [0, 1, 2] rfl (by decide) rfl (Nat.le_of_ble_eq_true rfl) (Nat.le_of_ble_eq_true rfl)
            · have t147_2 := (i_ne c147_1)
              refine lv_iload hx hb dX10_turnOp_150 (lv_at hl 3 rfl) ?_
              refine lv_iconst (v := 5) hx hb dX10_turnOp_152 (by decide) ?_
              refine lv_icmp_eq (tgt := 163) hx hb dX10_turnOp_153 (by decide) (fun c153_1 => ?_) (fun c153_1 => ?_)
              · have t153_2 := (i_eq c153_1)
                have r153_3 : rg z7_1 5 5 := rg_eqA t153_2 r7_2 (show rg (5 : Int32) 5 5 from rg_l (by decide)) (by decide)
                refine lv_iconst (v := 1) hx hb dX10_turnOp_163 (by decide) ?_
                refine lv_goto (tgt := 168) hx hb dX10_turnOp_164 (by decide) ?_
                refine lv_istore (lv' := [(8, .int 1), (7, .int r134_1), (6, .int r20_1), (5, .int r14_1), (4, .int z7_1), (3, .int r1_1), (0, .ref tl), (1, .long v0)]) hx hb dX10_turnOp_168 hl (by decide) rfl (fun ls hl => ?_)
                refine lv_aload_n hx hb dX10_turnOp_170 rfl (lv_at hl 6 rfl) ?_
                refine lv_iload hx hb dX10_turnOp_171 (lv_at hl 0 rfl) ?_
                refine lv_if_eq (tgt := 181) hx hb dX10_turnOp_173 (by decide) (fun c173_1 => absurd c173_1 (by decide)) (fun c173_1 => ?_)
                refine lv_bipush (v := 51) hx hb dX10_turnOp_176 (by decide) ?_
                refine lv_goto (tgt := 183) hx hb dX10_turnOp_178 (by decide) ?_
                obtain ⟨ts183_1, fs183_1, hs183_1, gs183_1⟩ := hZ.2.1
                refine va_gets hx hb hs183_1 hS hown (hn.get mw_1351 rfl) (fun _ h9 => h9) dX10_turnOp_183 ?_
                refine lv_iload hx hb dX10_turnOp_186 (lv_at hl 4 rfl) ?_
                refine va_ti hx hb gs183_1 hS (in_rg r153_3 (by decide)) (v := .int (fs183_1 z7_1.toNatClampNeg)) rfl dX10_turnOp_188 ?_
                refine lv_topi (fun z188_1 ez188_1 => ?_)
                obtain ⟨ts189_1, fs189_1, hs189_1, gs189_1⟩ := hZ.2.2.1
                refine va_gets hx hb hs189_1 hS hown (hn.get mw_1353 rfl) (fun _ h9 => h9) dX10_turnOp_189 ?_
                refine lv_iload hx hb dX10_turnOp_192 (lv_at hl 4 rfl) ?_
                refine va_ti hx hb gs189_1 hS (in_rg r153_3 (by decide)) (v := .int (fs189_1 z7_1.toNatClampNeg)) rfl dX10_turnOp_194 ?_
                refine lv_topi (fun z194_1 ez194_1 => ?_)
                refine lv_iload hx hb dX10_turnOp_195 (lv_at hl 3 rfl) ?_
                refine lv_iload hx hb dX10_turnOp_197 (lv_at hl 3 rfl) ?_
                refine lv_iload hx hb dX10_turnOp_199 (lv_at hl 1 rfl) ?_
                refine go_v (k1 := 0) (n1 := 0) (wr := []) [0, 1, 2] [] (rn_V (As := [.int 51, .int z188_1, .int z194_1, .int r14_1, .int r14_1, .int r134_1]) (rest := []) (c_X10_putOp l D ct tl (51 : Int32) z188_1 z194_1 r14_1 r14_1 r134_1 tls o0 p0 x_tl_3 y_tl_4134_4 o0r x_o0_1 k_o0r134_5 h_x_tl_3 (rg_of (show 0 ≤ y_tl_4134_4.toInt ∧ y_tl_4134_4.toInt ≤ 999990 by have q0 := h_x_tl_4.1; have q1 := h_x_tl_4.2; have q2 := hp134_7; omega)) h_x_o0_1 _) (cb_of (n := 6) hn mw_1329 mw_10 mw_1326 mhX10_putOp ⟨(Nat.le_of_ble_eq_true rfl), (Nat.le_of_ble_eq_true rfl)⟩) hx hb hml hown hn hK hSK hZ hS mw_1328 mw_s151 (ci := 10) (q0 := 0) rfl rfl rfl rfl hl.1 (Nat.le_of_ble_eq_true rfl) dX10_turnOp_201 ⟨(Nat.le_of_ble_eq_true rfl), (Nat.le_of_ble_eq_true rfl)⟩) hP hD hS hA rfl rfl (by decide) (by decide) (by decide) (Nat.le_of_ble_eq_true rfl) (Nat.le_of_ble_eq_true rfl) (fun u201_2 H locs hp201_3 hP hD hS => ?_)
                obtain ⟨y_tl_4201_4, k_o0r201_5⟩ := u201_2
                obtain ⟨hp201_6, hp201_7⟩ := hp201_3
                have hp201_6 : rg y_tl_4201_4 1 1000001 := hp201_6
                have hp201_7 : y_tl_4201_4.toInt = y_tl_4134_4.toInt + 1 := hp201_7
                have hP : va_P D vwCl [(tl, .inr (10, [.ref tls, .ref o0, .ref p0, .int x_tl_3, .int y_tl_4201_4])), (o0, .inr (5, [.ref o0r, .int x_o0_1])), (o0r, .inl (ct 1, 60000, .inl k_o0r201_5))] _ := hP
                have hD : va_D A [(tl, .inr (10, [.ref tls, .ref o0, .ref p0, .int x_tl_3, .int y_tl_4201_4])), (o0, .inr (5, [.ref o0r, .int x_o0_1])), (o0r, .inl (ct 1, 60000, .inl k_o0r201_5))] := hD
                refine lv_iload hx hb dX10_turnOp_204 (lv_at hl 2 rfl) ?_
                refine lv_if_ne (tgt := 215) hx hb dX10_turnOp_206 (by decide) (fun c206_1 => ?_) (fun c206_1 => ?_)
                · exact absurd (i_ne c206_1) (rg_neX r141_3 (show rg (0 : Int32) 0 0 from rg_l (by decide)) (by decide))
                · have t206_2 := (i_eq c206_1)
                  refine lv_aload_n hx hb dX10_turnOp_209 rfl (lv_at hl 6 rfl) ?_
                  refine lv_iload hx hb dX10_turnOp_210 (lv_at hl 3 rfl) ?_
                  refine go_v (k1 := 0) (n1 := 0) (wr := []) [0, 1, 2] [] (rn_V (As := [.int r14_1]) (rest := []) (c_X10_putCut l D ct tl r14_1 tls o0 p0 x_tl_3 y_tl_4201_4 o0r x_o0_1 k_o0r201_5 h_x_tl_3 (rg_of (show 0 ≤ y_tl_4201_4.toInt ∧ y_tl_4201_4.toInt ≤ 999950 by have q0 := h_x_tl_4.1; have q1 := h_x_tl_4.2; have q2 := hp134_7; have q3 := hp201_7; omega)) h_x_o0_1 _) (cb_of (n := 1) hn mw_1358 mw_10 mw_1355 mhX10_putCut ⟨(Nat.le_of_ble_eq_true rfl), (Nat.le_of_ble_eq_true rfl)⟩) hx hb hml hown hn hK hSK hZ hS mw_1357 mw_s157 (ci := 10) (q0 := 0) rfl rfl rfl rfl hl.1 (Nat.le_of_ble_eq_true rfl) dX10_turnOp_212 ⟨(Nat.le_of_ble_eq_true rfl), (Nat.le_of_ble_eq_true rfl)⟩) hP hD hS hA rfl rfl (by decide) (by decide) (by decide) (Nat.le_of_ble_eq_true rfl) (Nat.le_of_ble_eq_true rfl) (fun u212_2 H locs hp212_3 hP hD hS => ?_)
                  obtain ⟨y_tl_4212_4, k_o0r212_5⟩ := u212_2
                  obtain ⟨hp212_6, hp212_7⟩ := hp212_3
                  have hp212_6 : rg y_tl_4212_4 1 1000001 := hp212_6
                  have hp212_7 : y_tl_4212_4.toInt = y_tl_4201_4.toInt + 2 := hp212_7
                  have hP : va_P D vwCl [(tl, .inr (10, [.ref tls, .ref o0, .ref p0, .int x_tl_3, .int y_tl_4212_4])), (o0, .inr (5, [.ref o0r, .int x_o0_1])), (o0r, .inl (ct 1, 60000, .inl k_o0r212_5))] _ := hP
                  have hD : va_D A [(tl, .inr (10, [.ref tls, .ref o0, .ref p0, .int x_tl_3, .int y_tl_4212_4])), (o0, .inr (5, [.ref o0r, .int x_o0_1])), (o0r, .inl (ct 1, 60000, .inl k_o0r212_5))] := hD
                  exact endq_v hQ hx hb hr hlocks dX10_turnOp_215 (y_tl_4212_4, k_o0r212_5) ⟨hp212_6, (show x_tl_4.toInt + 1 ≤ y_tl_4212_4.toInt ∧ y_tl_4212_4.toInt ≤ x_tl_4.toInt + 9 by have q0 := hp134_7; have q1 := hp201_7; have q2 := hp212_7; omega), (show y_tl_4212_4.toInt = x_tl_4.toInt + ((d : Nat) : Int) by have q0 := r153_3.1; have q1 := r153_3.2; have q2 := (eq_shr (c := 16) (k := 4) ez7_1 (by decide) (by decide)); have q3 := hk0_2; have q4 := hk0_18; have q5 := hk0_22; have q6 := hk0_26; have q7 := hk4_1; have q8 := hp20_6; have q9 := hp134_7; have q10 := hp134_8; have q11 := hp134_9; have q12 := hp134_10; have q13 := hp201_7; have q14 := t206_2; have q15 := hp212_7; have q16 := (show (0 : Int32).toInt = 0 from by decide); omega)⟩ hP hD hS [0, 1, 2] rfl (by decide) rfl (Nat.le_of_ble_eq_true rfl) (Nat.le_of_ble_eq_true rfl)
              · have t153_2 := (i_ne c153_1)
                refine lv_iload hx hb dX10_turnOp_156 (lv_at hl 3 rfl) ?_
                refine lv_bipush (v := 10) hx hb dX10_turnOp_158 (by decide) ?_
                refine lv_icmp_ne (tgt := 167) hx hb dX10_turnOp_160 (by decide) (fun c160_1 => ?_) (fun c160_1 => ?_)
                · have t160_2 := (i_ne c160_1)
                  refine lv_iconst (v := 0) hx hb dX10_turnOp_167 (by decide) ?_
                  refine lv_istore (lv' := [(8, .int 0), (7, .int r134_1), (6, .int r20_1), (5, .int r14_1), (4, .int z7_1), (3, .int r1_1), (0, .ref tl), (1, .long v0)]) hx hb dX10_turnOp_168 hl (by decide) rfl (fun ls hl => ?_)
                  refine lv_aload_n hx hb dX10_turnOp_170 rfl (lv_at hl 6 rfl) ?_
                  refine lv_iload hx hb dX10_turnOp_171 (lv_at hl 0 rfl) ?_
                  refine lv_if_eq (tgt := 181) hx hb dX10_turnOp_173 (by decide) (fun c173_1 => ?_) (fun c173_1 => absurd (by decide) c173_1)
                  refine lv_bipush (v := 59) hx hb dX10_turnOp_181 (by decide) ?_
                  obtain ⟨ts183_1, fs183_1, hs183_1, gs183_1⟩ := hZ.2.1
                  refine va_gets hx hb hs183_1 hS hown (hn.get mw_1351 rfl) (fun _ h9 => h9) dX10_turnOp_183 ?_
                  refine lv_iload hx hb dX10_turnOp_186 (lv_at hl 4 rfl) ?_
                  refine va_ti hx hb gs183_1 hS (in_of (show 0 ≤ z7_1.toInt ∧ z7_1.toInt < 13 by have q0 := (eq_shr (c := 16) (k := 4) ez7_1 (by decide) (by decide)); have q1 := hq2; have q2 := hp1_5; omega)) (v := .int (fs183_1 z7_1.toNatClampNeg)) rfl dX10_turnOp_188 ?_
                  refine lv_topi (fun z188_1 ez188_1 => ?_)
                  obtain ⟨ts189_1, fs189_1, hs189_1, gs189_1⟩ := hZ.2.2.1
                  refine va_gets hx hb hs189_1 hS hown (hn.get mw_1353 rfl) (fun _ h9 => h9) dX10_turnOp_189 ?_
                  refine lv_iload hx hb dX10_turnOp_192 (lv_at hl 4 rfl) ?_
                  refine va_ti hx hb gs189_1 hS (in_of (show 0 ≤ z7_1.toInt ∧ z7_1.toInt < 13 by have q0 := (eq_shr (c := 16) (k := 4) ez7_1 (by decide) (by decide)); have q1 := hq2; have q2 := hp1_5; omega)) (v := .int (fs189_1 z7_1.toNatClampNeg)) rfl dX10_turnOp_194 ?_
                  refine lv_topi (fun z194_1 ez194_1 => ?_)
                  refine lv_iload hx hb dX10_turnOp_195 (lv_at hl 3 rfl) ?_
                  refine lv_iload hx hb dX10_turnOp_197 (lv_at hl 3 rfl) ?_
                  refine lv_iload hx hb dX10_turnOp_199 (lv_at hl 1 rfl) ?_
                  refine go_v (k1 := 0) (n1 := 0) (wr := []) [0, 1, 2] [] (rn_V (As := [.int 59, .int z188_1, .int z194_1, .int r14_1, .int r14_1, .int r134_1]) (rest := []) (c_X10_putOp l D ct tl (59 : Int32) z188_1 z194_1 r14_1 r14_1 r134_1 tls o0 p0 x_tl_3 y_tl_4134_4 o0r x_o0_1 k_o0r134_5 h_x_tl_3 (rg_of (show 0 ≤ y_tl_4134_4.toInt ∧ y_tl_4134_4.toInt ≤ 999990 by have q0 := h_x_tl_4.1; have q1 := h_x_tl_4.2; have q2 := hp134_7; omega)) h_x_o0_1 _) (cb_of (n := 6) hn mw_1329 mw_10 mw_1326 mhX10_putOp ⟨(Nat.le_of_ble_eq_true rfl), (Nat.le_of_ble_eq_true rfl)⟩) hx hb hml hown hn hK hSK hZ hS mw_1328 mw_s151 (ci := 10) (q0 := 0) rfl rfl rfl rfl hl.1 (Nat.le_of_ble_eq_true rfl) dX10_turnOp_201 ⟨(Nat.le_of_ble_eq_true rfl), (Nat.le_of_ble_eq_true rfl)⟩) hP hD hS hA rfl rfl (by decide) (by decide) (by decide) (Nat.le_of_ble_eq_true rfl) (Nat.le_of_ble_eq_true rfl) (fun u201_2 H locs hp201_3 hP hD hS => ?_)
                  obtain ⟨y_tl_4201_4, k_o0r201_5⟩ := u201_2
                  obtain ⟨hp201_6, hp201_7⟩ := hp201_3
                  have hp201_6 : rg y_tl_4201_4 1 1000001 := hp201_6
                  have hp201_7 : y_tl_4201_4.toInt = y_tl_4134_4.toInt + 1 := hp201_7
                  have hP : va_P D vwCl [(tl, .inr (10, [.ref tls, .ref o0, .ref p0, .int x_tl_3, .int y_tl_4201_4])), (o0, .inr (5, [.ref o0r, .int x_o0_1])), (o0r, .inl (ct 1, 60000, .inl k_o0r201_5))] _ := hP
                  have hD : va_D A [(tl, .inr (10, [.ref tls, .ref o0, .ref p0, .int x_tl_3, .int y_tl_4201_4])), (o0, .inr (5, [.ref o0r, .int x_o0_1])), (o0r, .inl (ct 1, 60000, .inl k_o0r201_5))] := hD
                  refine lv_iload hx hb dX10_turnOp_204 (lv_at hl 2 rfl) ?_
                  refine lv_if_ne (tgt := 215) hx hb dX10_turnOp_206 (by decide) (fun c206_1 => ?_) (fun c206_1 => ?_)
                  · exact absurd (i_ne c206_1) (rg_neX r141_3 (show rg (0 : Int32) 0 0 from rg_l (by decide)) (by decide))
                  · have t206_2 := (i_eq c206_1)
                    refine lv_aload_n hx hb dX10_turnOp_209 rfl (lv_at hl 6 rfl) ?_
                    refine lv_iload hx hb dX10_turnOp_210 (lv_at hl 3 rfl) ?_
                    refine go_v (k1 := 0) (n1 := 0) (wr := []) [0, 1, 2] [] (rn_V (As := [.int r14_1]) (rest := []) (c_X10_putCut l D ct tl r14_1 tls o0 p0 x_tl_3 y_tl_4201_4 o0r x_o0_1 k_o0r201_5 h_x_tl_3 (rg_of (show 0 ≤ y_tl_4201_4.toInt ∧ y_tl_4201_4.toInt ≤ 999950 by have q0 := h_x_tl_4.1; have q1 := h_x_tl_4.2; have q2 := hp134_7; have q3 := hp201_7; omega)) h_x_o0_1 _) (cb_of (n := 1) hn mw_1358 mw_10 mw_1355 mhX10_putCut ⟨(Nat.le_of_ble_eq_true rfl), (Nat.le_of_ble_eq_true rfl)⟩) hx hb hml hown hn hK hSK hZ hS mw_1357 mw_s157 (ci := 10) (q0 := 0) rfl rfl rfl rfl hl.1 (Nat.le_of_ble_eq_true rfl) dX10_turnOp_212 ⟨(Nat.le_of_ble_eq_true rfl), (Nat.le_of_ble_eq_true rfl)⟩) hP hD hS hA rfl rfl (by decide) (by decide) (by decide) (Nat.le_of_ble_eq_true rfl) (Nat.le_of_ble_eq_true rfl) (fun u212_2 H locs hp212_3 hP hD hS => ?_)
                    obtain ⟨y_tl_4212_4, k_o0r212_5⟩ := u212_2
                    obtain ⟨hp212_6, hp212_7⟩ := hp212_3
                    have hp212_6 : rg y_tl_4212_4 1 1000001 := hp212_6
                    have hp212_7 : y_tl_4212_4.toInt = y_tl_4201_4.toInt + 2 := hp212_7
                    have hP : va_P D vwCl [(tl, .inr (10, [.ref tls, .ref o0, .ref p0, .int x_tl_3, .int y_tl_4212_4])), (o0, .inr (5, [.ref o0r, .int x_o0_1])), (o0r, .inl (ct 1, 60000, .inl k_o0r212_5))] _ := hP
                    have hD : va_D A [(tl, .inr (10, [.ref tls, .ref o0, .ref p0, .int x_tl_3, .int y_tl_4212_4])), (o0, .inr (5, [.ref o0r, .int x_o0_1])), (o0r, .inl (ct 1, 60000, .inl k_o0r212_5))] := hD
                    exact endq_v hQ hx hb hr hlocks dX10_turnOp_215 (y_tl_4212_4, k_o0r212_5) ⟨hp212_6, (show x_tl_4.toInt + 1 ≤ y_tl_4212_4.toInt ∧ y_tl_4212_4.toInt ≤ x_tl_4.toInt + 9 by have q0 := hp134_7; have q1 := hp201_7; have q2 := hp212_7; omega), (show y_tl_4212_4.toInt = x_tl_4.toInt + ((d : Nat) : Int) by have q0 := (eq_shr (c := 16) (k := 4) ez7_1 (by decide) (by decide)); have q1 := hk0_2; have q2 := hk0_18; have q3 := hk0_22; have q4 := hk0_26; have q5 := hk4_1; have q6 := hp20_6; have q7 := t29_2; have q8 := t80_2; have q9 := t113_2; have q10 := hp134_7; have q11 := hp134_8; have q12 := hp134_9; have q13 := hp134_10; have q14 := hp201_7; have q15 := t206_2; have q16 := hp212_7; have q17 := (show (0 : Int32).toInt = 0 from by decide); have q18 := (show (11 : Int32).toInt = 11 from by decide); have q19 := (show (3 : Int32).toInt = 3 from by decide); have q20 := (show (8 : Int32).toInt = 8 from by decide); omega)⟩ hP hD hS [0, 1, 2] rfl (by decide) rfl (Nat.le_of_ble_eq_true rfl) (Nat.le_of_ble_eq_true rfl)
                · have t160_2 := (i_eq c160_1)
                  have r160_3 : rg z7_1 10 10 := rg_eqA t160_2 r7_2 (show rg (10 : Int32) 10 10 from rg_l (by decide)) (by decide)
                  refine lv_iconst (v := 1) hx hb dX10_turnOp_163 (by decide) ?_
                  refine lv_goto (tgt := 168) hx hb dX10_turnOp_164 (by decide) ?_
                  refine lv_istore (lv' := [(8, .int 1), (7, .int r134_1), (6, .int r20_1), (5, .int r14_1), (4, .int z7_1), (3, .int r1_1), (0, .ref tl), (1, .long v0)]) hx hb dX10_turnOp_168 hl (by decide) rfl (fun ls hl => ?_)
                  refine lv_aload_n hx hb dX10_turnOp_170 rfl (lv_at hl 6 rfl) ?_
                  refine lv_iload hx hb dX10_turnOp_171 (lv_at hl 0 rfl) ?_
                  refine lv_if_eq (tgt := 181) hx hb dX10_turnOp_173 (by decide) (fun c173_1 => absurd c173_1 (by decide)) (fun c173_1 => ?_)
                  refine lv_bipush (v := 51) hx hb dX10_turnOp_176 (by decide) ?_
                  refine lv_goto (tgt := 183) hx hb dX10_turnOp_178 (by decide) ?_
                  obtain ⟨ts183_1, fs183_1, hs183_1, gs183_1⟩ := hZ.2.1
                  refine va_gets hx hb hs183_1 hS hown (hn.get mw_1351 rfl) (fun _ h9 => h9) dX10_turnOp_183 ?_
                  refine lv_iload hx hb dX10_turnOp_186 (lv_at hl 4 rfl) ?_
                  refine va_ti hx hb gs183_1 hS (in_rg r160_3 (by decide)) (v := .int (fs183_1 z7_1.toNatClampNeg)) rfl dX10_turnOp_188 ?_
                  refine lv_topi (fun z188_1 ez188_1 => ?_)
                  obtain ⟨ts189_1, fs189_1, hs189_1, gs189_1⟩ := hZ.2.2.1
                  refine va_gets hx hb hs189_1 hS hown (hn.get mw_1353 rfl) (fun _ h9 => h9) dX10_turnOp_189 ?_
                  refine lv_iload hx hb dX10_turnOp_192 (lv_at hl 4 rfl) ?_
                  refine va_ti hx hb gs189_1 hS (in_rg r160_3 (by decide)) (v := .int (fs189_1 z7_1.toNatClampNeg)) rfl dX10_turnOp_194 ?_
                  refine lv_topi (fun z194_1 ez194_1 => ?_)
                  refine lv_iload hx hb dX10_turnOp_195 (lv_at hl 3 rfl) ?_
                  refine lv_iload hx hb dX10_turnOp_197 (lv_at hl 3 rfl) ?_
                  refine lv_iload hx hb dX10_turnOp_199 (lv_at hl 1 rfl) ?_
                  refine go_v (k1 := 0) (n1 := 0) (wr := []) [0, 1, 2] [] (rn_V (As := [.int 51, .int z188_1, .int z194_1, .int r14_1, .int r14_1, .int r134_1]) (rest := []) (c_X10_putOp l D ct tl (51 : Int32) z188_1 z194_1 r14_1 r14_1 r134_1 tls o0 p0 x_tl_3 y_tl_4134_4 o0r x_o0_1 k_o0r134_5 h_x_tl_3 (rg_of (show 0 ≤ y_tl_4134_4.toInt ∧ y_tl_4134_4.toInt ≤ 999990 by have q0 := h_x_tl_4.1; have q1 := h_x_tl_4.2; have q2 := hp134_7; omega)) h_x_o0_1 _) (cb_of (n := 6) hn mw_1329 mw_10 mw_1326 mhX10_putOp ⟨(Nat.le_of_ble_eq_true rfl), (Nat.le_of_ble_eq_true rfl)⟩) hx hb hml hown hn hK hSK hZ hS mw_1328 mw_s151 (ci := 10) (q0 := 0) rfl rfl rfl rfl hl.1 (Nat.le_of_ble_eq_true rfl) dX10_turnOp_201 ⟨(Nat.le_of_ble_eq_true rfl), (Nat.le_of_ble_eq_true rfl)⟩) hP hD hS hA rfl rfl (by decide) (by decide) (by decide) (Nat.le_of_ble_eq_true rfl) (Nat.le_of_ble_eq_true rfl) (fun u201_2 H locs hp201_3 hP hD hS => ?_)
                  obtain ⟨y_tl_4201_4, k_o0r201_5⟩ := u201_2
                  obtain ⟨hp201_6, hp201_7⟩ := hp201_3
                  have hp201_6 : rg y_tl_4201_4 1 1000001 := hp201_6
                  have hp201_7 : y_tl_4201_4.toInt = y_tl_4134_4.toInt + 1 := hp201_7
                  have hP : va_P D vwCl [(tl, .inr (10, [.ref tls, .ref o0, .ref p0, .int x_tl_3, .int y_tl_4201_4])), (o0, .inr (5, [.ref o0r, .int x_o0_1])), (o0r, .inl (ct 1, 60000, .inl k_o0r201_5))] _ := hP
                  have hD : va_D A [(tl, .inr (10, [.ref tls, .ref o0, .ref p0, .int x_tl_3, .int y_tl_4201_4])), (o0, .inr (5, [.ref o0r, .int x_o0_1])), (o0r, .inl (ct 1, 60000, .inl k_o0r201_5))] := hD
                  refine lv_iload hx hb dX10_turnOp_204 (lv_at hl 2 rfl) ?_
                  refine lv_if_ne (tgt := 215) hx hb dX10_turnOp_206 (by decide) (fun c206_1 => ?_) (fun c206_1 => ?_)
                  · exact absurd (i_ne c206_1) (rg_neX r141_3 (show rg (0 : Int32) 0 0 from rg_l (by decide)) (by decide))
                  · have t206_2 := (i_eq c206_1)
                    refine lv_aload_n hx hb dX10_turnOp_209 rfl (lv_at hl 6 rfl) ?_
                    refine lv_iload hx hb dX10_turnOp_210 (lv_at hl 3 rfl) ?_
                    refine go_v (k1 := 0) (n1 := 0) (wr := []) [0, 1, 2] [] (rn_V (As := [.int r14_1]) (rest := []) (c_X10_putCut l D ct tl r14_1 tls o0 p0 x_tl_3 y_tl_4201_4 o0r x_o0_1 k_o0r201_5 h_x_tl_3 (rg_of (show 0 ≤ y_tl_4201_4.toInt ∧ y_tl_4201_4.toInt ≤ 999950 by have q0 := h_x_tl_4.1; have q1 := h_x_tl_4.2; have q2 := hp134_7; have q3 := hp201_7; omega)) h_x_o0_1 _) (cb_of (n := 1) hn mw_1358 mw_10 mw_1355 mhX10_putCut ⟨(Nat.le_of_ble_eq_true rfl), (Nat.le_of_ble_eq_true rfl)⟩) hx hb hml hown hn hK hSK hZ hS mw_1357 mw_s157 (ci := 10) (q0 := 0) rfl rfl rfl rfl hl.1 (Nat.le_of_ble_eq_true rfl) dX10_turnOp_212 ⟨(Nat.le_of_ble_eq_true rfl), (Nat.le_of_ble_eq_true rfl)⟩) hP hD hS hA rfl rfl (by decide) (by decide) (by decide) (Nat.le_of_ble_eq_true rfl) (Nat.le_of_ble_eq_true rfl) (fun u212_2 H locs hp212_3 hP hD hS => ?_)
                    obtain ⟨y_tl_4212_4, k_o0r212_5⟩ := u212_2
                    obtain ⟨hp212_6, hp212_7⟩ := hp212_3
                    have hp212_6 : rg y_tl_4212_4 1 1000001 := hp212_6
                    have hp212_7 : y_tl_4212_4.toInt = y_tl_4201_4.toInt + 2 := hp212_7
                    have hP : va_P D vwCl [(tl, .inr (10, [.ref tls, .ref o0, .ref p0, .int x_tl_3, .int y_tl_4212_4])), (o0, .inr (5, [.ref o0r, .int x_o0_1])), (o0r, .inl (ct 1, 60000, .inl k_o0r212_5))] _ := hP
                    have hD : va_D A [(tl, .inr (10, [.ref tls, .ref o0, .ref p0, .int x_tl_3, .int y_tl_4212_4])), (o0, .inr (5, [.ref o0r, .int x_o0_1])), (o0r, .inl (ct 1, 60000, .inl k_o0r212_5))] := hD
                    exact endq_v hQ hx hb hr hlocks dX10_turnOp_215 (y_tl_4212_4, k_o0r212_5) ⟨hp212_6, (show x_tl_4.toInt + 1 ≤ y_tl_4212_4.toInt ∧ y_tl_4212_4.toInt ≤ x_tl_4.toInt + 9 by have q0 := hp134_7; have q1 := hp201_7; have q2 := hp212_7; omega), (show y_tl_4212_4.toInt = x_tl_4.toInt + ((d : Nat) : Int) by have q0 := r160_3.1; have q1 := (eq_shr (c := 16) (k := 4) ez7_1 (by decide) (by decide)); have q2 := hk0_2; have q3 := hk0_18; have q4 := hk0_22; have q5 := hk0_26; have q6 := hk4_1; have q7 := hp20_6; have q8 := hp134_7; have q9 := hp134_8; have q10 := hp134_9; have q11 := hp134_10; have q12 := t160_2; have q13 := hp201_7; have q14 := t206_2; have q15 := hp212_7; have q16 := (show (0 : Int32).toInt = 0 from by decide); have q17 := (show (10 : Int32).toInt = 10 from by decide); omega)⟩ hP hD hS [0, 1, 2] rfl (by decide) rfl (Nat.le_of_ble_eq_true rfl) (Nat.le_of_ble_eq_true rfl)
        · have t113_2 := (i_eq c113_1)
          have r113_3 : rg z7_1 3 3 := rg_eqA t113_2 r7_2 (show rg (3 : Int32) 3 3 from rg_l (by decide)) (by decide)
          refine lv_aload_n hx hb dX10_turnOp_116 rfl (lv_at hl 4 rfl) ?_
          refine lv_iload hx hb dX10_turnOp_117 (lv_at hl 0 rfl) ?_
          refine lv_iload hx hb dX10_turnOp_119 (lv_at hl 1 rfl) ?_
          refine lv_aload_n hx hb dX10_turnOp_121 rfl (lv_at hl 4 rfl) ?_
          refine lv_lload_n hx hb dX10_turnOp_122 rfl (lv_at hl 5 rfl) ?_
          refine go_i (k1 := 0) (n1 := 0) (wr := []) [0, 1, 2] [] (rn_V (As := [.long v0]) (rest := [.int r14_1, .int r20_1, .ref tl]) (c_X10_putSide_w l D ct cc kk tl v0 tls o0 p0 x_tl_3 x_tl_4 o0r x_o0_1 g_o0r h_x_tl_3 (rg_w h_x_tl_4 (by decide)) h_x_o0_1 (show cc.toInt = v0.toInt % 256 by have q0 := hp1_5; have q1 := hk4_1; omega) (show kk.toInt = v0.toInt / 4294967296 by have q0 := (rl_any v0).1; have q1 := (rl_any v0).2; have q2 := (rg_any kk).1; have q3 := (rg_any kk).2; have q4 := (rg_any cc).1; have q5 := (rg_any cc).2; have q6 := hp1_4.1; have q7 := hp1_4.2; have q8 := hp11_4.1; have q9 := hp11_4.2; have q10 := hp20_4.1; have q11 := hp20_4.2; have q12 := (show rg (11 : Int32) 11 11 from rg_l (by decide)).1; have q13 := (show rg (11 : Int32) 11 11 from rg_l (by decide)).2; have q14 := r113_3.1; have q15 := r113_3.2; have q16 := (eq_shr (c := 16) (k := 4) ez7_1 (by decide) (by decide)); have q17 := (show rg (8 : Int32) 8 8 from rg_l (by decide)).1; have q18 := (show rg (8 : Int32) 8 8 from rg_l (by decide)).2; have q19 := (show rg (3 : Int32) 3 3 from rg_l (by decide)).1; have q20 := (show rg (3 : Int32) 3 3 from rg_l (by decide)).2; have q21 := hq0; have q22 := hq1; have q23 := hq2; have q24 := hk0_2; have q25 := hk0_3; have q26 := hk0_4; have q27 := hk0_5; have q28 := hk0_6; have q29 := hk0_7; have q30 := hk0_8; have q31 := hk0_9; have q32 := hk0_10; have q33 := hk0_11; have q34 := hk0_12; have q35 := hk0_13; have q36 := hk0_14; have q37 := hk0_15; have q38 := hk0_16; have q39 := hk0_17; have q40 := hk0_18; have q41 := hk0_19; have q42 := hk0_20; have q43 := hk0_21; have q44 := hk0_22; have q45 := hk0_23; have q46 := hk0_24; have q47 := hk0_25; have q48 := hk0_26; have q49 := hp1_5; have q50 := hk4_1; have q51 := hp11_5; have q52 := hp20_5; have q53 := hp20_6; have q54 := t29_2; have q55 := t56_2; have q56 := t80_2; have q57 := t113_2; have q58 := (show (11 : Int32).toInt = 11 from by decide); have q59 := (show (3 : Int32).toInt = 3 from by decide); have q60 := (show (8 : Int32).toInt = 8 from by decide); omega) _) (cb_of (n := 1) hn mw_1333 mw_10 mw_1330 mhX10_putSide ⟨(Nat.le_of_ble_eq_true rfl), (Nat.le_of_ble_eq_true rfl)⟩) hx hb hml hown hn hK hSK hZ hS mw_1332 mw_s152 (ci := 10) (q0 := 0) rfl rfl rfl rfl hl.1 (Nat.le_of_ble_eq_true rfl) dX10_turnOp_123 ⟨(Nat.le_of_ble_eq_true rfl), (Nat.le_of_ble_eq_true rfl)⟩) hP hD hS hA rfl rfl (by decide) (by decide) (by decide) (Nat.le_of_ble_eq_true rfl) (Nat.le_of_ble_eq_true rfl) (fun r123_1 u123_2 H locs hp123_3 hP hD hS => ?_)
          obtain ⟨y_tl_4123_4, k_o0r123_5⟩ := u123_2
          obtain ⟨hp123_6, hp123_7, hp123_8, hp123_9, hp123_10⟩ := hp123_3
          have hp123_6 : rg y_tl_4123_4 0 1000001 := hp123_6
          have hp123_7 : x_tl_4.toInt + 0 ≤ y_tl_4123_4.toInt ∧ y_tl_4123_4.toInt ≤ x_tl_4.toInt + 2 := hp123_7
          have hp123_8 : (cc.toInt / 8) % 2 = 1 → y_tl_4123_4.toInt = x_tl_4.toInt := hp123_8
          have hp123_9 : (cc.toInt / 8) % 2 = 0 ∧ -2048 ≤ kk.toInt ∧ kk.toInt ≤ 2047 → y_tl_4123_4.toInt = x_tl_4.toInt + 1 := hp123_9
          have hp123_10 : (cc.toInt / 8) % 2 = 0 ∧ (kk.toInt < -2048 ∨ 2047 < kk.toInt) → y_tl_4123_4.toInt = x_tl_4.toInt + 2 := hp123_10
          have hP : va_P D vwCl [(tl, .inr (10, [.ref tls, .ref o0, .ref p0, .int x_tl_3, .int y_tl_4123_4])), (o0, .inr (5, [.ref o0r, .int x_o0_1])), (o0r, .inl (ct 1, 60000, .inl k_o0r123_5))] _ := hP
          have hD : va_D A [(tl, .inr (10, [.ref tls, .ref o0, .ref p0, .int x_tl_3, .int y_tl_4123_4])), (o0, .inr (5, [.ref o0r, .int x_o0_1])), (o0r, .inl (ct 1, 60000, .inl k_o0r123_5))] := hD
          refine go_v (k1 := 0) (n1 := 0) (wr := []) [0, 1, 2] [] (rn_V (As := [.int r20_1, .int r14_1, .int r123_1]) (rest := []) (c_X10_turnDivision_w l D ct tl r20_1 r14_1 r123_1 tls o0 p0 x_tl_3 y_tl_4123_4 o0r x_o0_1 k_o0r123_5 hp20_4 h_x_tl_3 (rg_of (show 0 ≤ y_tl_4123_4.toInt ∧ y_tl_4123_4.toInt ≤ 999900 by have q0 := h_x_tl_4.1; have q1 := h_x_tl_4.2; have q2 := hp123_7; omega)) h_x_o0_1 _) (cb_of (n := 3) hn mw_1337 mw_10 mw_1334 mhX10_turnDivision ⟨(Nat.le_of_ble_eq_true rfl), (Nat.le_of_ble_eq_true rfl)⟩) hx hb hml hown hn hK hSK hZ hS mw_1336 mw_s153 (ci := 10) (q0 := 0) rfl rfl rfl rfl hl.1 (Nat.le_of_ble_eq_true rfl) dX10_turnOp_126 ⟨(Nat.le_of_ble_eq_true rfl), (Nat.le_of_ble_eq_true rfl)⟩) hP hD hS hA rfl rfl (by decide) (by decide) (by decide) (Nat.le_of_ble_eq_true rfl) (Nat.le_of_ble_eq_true rfl) (fun u126_2 H locs hp126_3 hP hD hS => ?_)
          obtain ⟨y_tl_4126_4, k_o0r126_5⟩ := u126_2
          obtain ⟨hp126_6, hp126_7, hp126_8, hp126_9⟩ := hp126_3
          have hp126_6 : rg y_tl_4126_4 1 1000001 := hp126_6
          have hp126_7 : y_tl_4123_4.toInt + 4 ≤ y_tl_4126_4.toInt ∧ y_tl_4126_4.toInt ≤ y_tl_4123_4.toInt + 5 := hp126_7
          have hp126_8 : r20_1.toInt = 1 → y_tl_4126_4.toInt = y_tl_4123_4.toInt + 4 := hp126_8
          have hp126_9 : r20_1.toInt = 0 → y_tl_4126_4.toInt = y_tl_4123_4.toInt + 5 := hp126_9
          have hP : va_P D vwCl [(tl, .inr (10, [.ref tls, .ref o0, .ref p0, .int x_tl_3, .int y_tl_4126_4])), (o0, .inr (5, [.ref o0r, .int x_o0_1])), (o0r, .inl (ct 1, 60000, .inl k_o0r126_5))] _ := hP
          have hD : va_D A [(tl, .inr (10, [.ref tls, .ref o0, .ref p0, .int x_tl_3, .int y_tl_4126_4])), (o0, .inr (5, [.ref o0r, .int x_o0_1])), (o0r, .inl (ct 1, 60000, .inl k_o0r126_5))] := hD
          refine lv_goto (tgt := 204) hx hb dX10_turnOp_129 (by decide) ?_
          refine lv_iload hx hb dX10_turnOp_204 (lv_at hl 0 rfl) ?_
          refine lv_if_ne (tgt := 215) hx hb dX10_turnOp_206 (by decide) (fun c206_1 => ?_) (fun c206_1 => ?_)
          · have t206_2 := (i_ne c206_1)
            have r206_3 : rg r20_1 1 1 := rg_neAl t206_2 hp20_4 (show rg (0 : Int32) 0 0 from rg_l (by decide)) (by decide)
            exact endq_v hQ hx hb hr hlocks dX10_turnOp_215 (y_tl_4126_4, k_o0r126_5) ⟨hp126_6, (show x_tl_4.toInt + 1 ≤ y_tl_4126_4.toInt ∧ y_tl_4126_4.toInt ≤ x_tl_4.toInt + 9 by have q0 := hp123_7; have q1 := hp126_7; omega), (show y_tl_4126_4.toInt = x_tl_4.toInt + ((d : Nat) : Int) by have q0 := r206_3.1; have q1 := r206_3.2; have q2 := r113_3.1; have q3 := r113_3.2; have q4 := (eq_shr (c := 16) (k := 4) ez7_1 (by decide) (by decide)); have q5 := hk0_2; have q6 := hk0_5; have q7 := hk0_9; have q8 := hk0_13; have q9 := hk4_1; have q10 := hp20_5; have q11 := hp123_7; have q12 := hp123_8; have q13 := hp123_9; have q14 := hp123_10; have q15 := hp126_7; have q16 := hp126_8; omega)⟩ hP hD hS [0, 1, 2] rfl (by decide) rfl (Nat.le_of_ble_eq_true rfl) (Nat.le_of_ble_eq_true rfl)
          · have t206_2 := (i_eq c206_1)
            have r206_3 : rg r20_1 0 0 := rg_eqA t206_2 hp20_4 (show rg (0 : Int32) 0 0 from rg_l (by decide)) (by decide)
            refine lv_aload_n hx hb dX10_turnOp_209 rfl (lv_at hl 4 rfl) ?_
            refine lv_iload hx hb dX10_turnOp_210 (lv_at hl 1 rfl) ?_
            refine go_v (k1 := 0) (n1 := 0) (wr := []) [0, 1, 2] [] (rn_V (As := [.int r14_1]) (rest := []) (c_X10_putCut l D ct tl r14_1 tls o0 p0 x_tl_3 y_tl_4126_4 o0r x_o0_1 k_o0r126_5 h_x_tl_3 (rg_of (show 0 ≤ y_tl_4126_4.toInt ∧ y_tl_4126_4.toInt ≤ 999950 by have q0 := hp123_6.1; have q1 := h_x_tl_4.2; have q2 := hp123_7; have q3 := hp126_7; omega)) h_x_o0_1 _) (cb_of (n := 1) hn mw_1358 mw_10 mw_1355 mhX10_putCut ⟨(Nat.le_of_ble_eq_true rfl), (Nat.le_of_ble_eq_true rfl)⟩) hx hb hml hown hn hK hSK hZ hS mw_1357 mw_s157 (ci := 10) (q0 := 0) rfl rfl rfl rfl hl.1 (Nat.le_of_ble_eq_true rfl) dX10_turnOp_212 ⟨(Nat.le_of_ble_eq_true rfl), (Nat.le_of_ble_eq_true rfl)⟩) hP hD hS hA rfl rfl (by decide) (by decide) (by decide) (Nat.le_of_ble_eq_true rfl) (Nat.le_of_ble_eq_true rfl) (fun u212_2 H locs hp212_3 hP hD hS => ?_)
            obtain ⟨y_tl_4212_4, k_o0r212_5⟩ := u212_2
            obtain ⟨hp212_6, hp212_7⟩ := hp212_3
            have hp212_6 : rg y_tl_4212_4 1 1000001 := hp212_6
            have hp212_7 : y_tl_4212_4.toInt = y_tl_4126_4.toInt + 2 := hp212_7
            have hP : va_P D vwCl [(tl, .inr (10, [.ref tls, .ref o0, .ref p0, .int x_tl_3, .int y_tl_4212_4])), (o0, .inr (5, [.ref o0r, .int x_o0_1])), (o0r, .inl (ct 1, 60000, .inl k_o0r212_5))] _ := hP
            have hD : va_D A [(tl, .inr (10, [.ref tls, .ref o0, .ref p0, .int x_tl_3, .int y_tl_4212_4])), (o0, .inr (5, [.ref o0r, .int x_o0_1])), (o0r, .inl (ct 1, 60000, .inl k_o0r212_5))] := hD
            exact endq_v hQ hx hb hr hlocks dX10_turnOp_215 (y_tl_4212_4, k_o0r212_5) ⟨hp212_6, (show x_tl_4.toInt + 1 ≤ y_tl_4212_4.toInt ∧ y_tl_4212_4.toInt ≤ x_tl_4.toInt + 9 by have q0 := hp123_7; have q1 := hp126_7; have q2 := hp212_7; omega), (show y_tl_4212_4.toInt = x_tl_4.toInt + ((d : Nat) : Int) by have q0 := r113_3.1; have q1 := r113_3.2; have q2 := (eq_shr (c := 16) (k := 4) ez7_1 (by decide) (by decide)); have q3 := hk0_2; have q4 := hk0_17; have q5 := hk0_21; have q6 := hk0_25; have q7 := hk4_1; have q8 := hp20_6; have q9 := hp123_7; have q10 := hp123_8; have q11 := hp123_9; have q12 := hp123_10; have q13 := hp126_7; have q14 := hp126_9; have q15 := t206_2; have q16 := hp212_7; have q17 := (show (0 : Int32).toInt = 0 from by decide); omega)⟩ hP hD hS [0, 1, 2] rfl (by decide) rfl (Nat.le_of_ble_eq_true rfl) (Nat.le_of_ble_eq_true rfl)
      · have t80_2 := (i_eq c80_1)
        have r80_3 : rg z7_1 8 8 := rg_eqA t80_2 r7_2 (show rg (8 : Int32) 8 8 from rg_l (by decide)) (by decide)
        refine lv_aload_n hx hb dX10_turnOp_83 rfl (lv_at hl 4 rfl) ?_
        refine lv_iload hx hb dX10_turnOp_84 (lv_at hl 0 rfl) ?_
        refine lv_if_eq (tgt := 94) hx hb dX10_turnOp_86 (by decide) (fun c86_1 => ?_) (fun c86_1 => ?_)
        · have t86_2 := (i_eq c86_1)
          have r86_3 : rg r20_1 0 0 := rg_eqA t86_2 hp20_4 (show rg (0 : Int32) 0 0 from rg_l (by decide)) (by decide)
          refine lv_bipush (v := 59) hx hb dX10_turnOp_94 (by decide) ?_
          refine lv_bipush (v := 32) hx hb dX10_turnOp_96 (by decide) ?_
          refine lv_iconst (v := 0) hx hb dX10_turnOp_98 (by decide) ?_
          refine lv_iload hx hb dX10_turnOp_99 (lv_at hl 1 rfl) ?_
          refine lv_iconst (v := 0) hx hb dX10_turnOp_101 (by decide) ?_
          refine lv_iload hx hb dX10_turnOp_102 (lv_at hl 1 rfl) ?_
          refine go_v (k1 := 0) (n1 := 0) (wr := []) [0, 1, 2] [] (rn_V (As := [.int 59, .int 32, .int 0, .int r14_1, .int 0, .int r14_1]) (rest := []) (c_X10_putOp l D ct tl (59 : Int32) (32 : Int32) (0 : Int32) r14_1 (0 : Int32) r14_1 tls o0 p0 x_tl_3 x_tl_4 o0r x_o0_1 g_o0r h_x_tl_3 (rg_w h_x_tl_4 (by decide)) h_x_o0_1 _) (cb_of (n := 6) hn mw_1329 mw_10 mw_1326 mhX10_putOp ⟨(Nat.le_of_ble_eq_true rfl), (Nat.le_of_ble_eq_true rfl)⟩) hx hb hml hown hn hK hSK hZ hS mw_1328 mw_s151 (ci := 10) (q0 := 0) rfl rfl rfl rfl hl.1 (Nat.le_of_ble_eq_true rfl) dX10_turnOp_104 ⟨(Nat.le_of_ble_eq_true rfl), (Nat.le_of_ble_eq_true rfl)⟩) hP hD hS hA rfl rfl (by decide) (by decide) (by decide) (Nat.le_of_ble_eq_true rfl) (Nat.le_of_ble_eq_true rfl) (fun u104_2 H locs hp104_3 hP hD hS => ?_)
          obtain ⟨y_tl_4104_4, k_o0r104_5⟩ := u104_2
          obtain ⟨hp104_6, hp104_7⟩ := hp104_3
          have hp104_6 : rg y_tl_4104_4 1 1000001 := hp104_6
          have hp104_7 : y_tl_4104_4.toInt = x_tl_4.toInt + 1 := hp104_7
          have hP : va_P D vwCl [(tl, .inr (10, [.ref tls, .ref o0, .ref p0, .int x_tl_3, .int y_tl_4104_4])), (o0, .inr (5, [.ref o0r, .int x_o0_1])), (o0r, .inl (ct 1, 60000, .inl k_o0r104_5))] _ := hP
          have hD : va_D A [(tl, .inr (10, [.ref tls, .ref o0, .ref p0, .int x_tl_3, .int y_tl_4104_4])), (o0, .inr (5, [.ref o0r, .int x_o0_1])), (o0r, .inl (ct 1, 60000, .inl k_o0r104_5))] := hD
          refine lv_goto (tgt := 204) hx hb dX10_turnOp_107 (by decide) ?_
          refine lv_iload hx hb dX10_turnOp_204 (lv_at hl 0 rfl) ?_
          refine lv_if_ne (tgt := 215) hx hb dX10_turnOp_206 (by decide) (fun c206_1 => ?_) (fun c206_1 => ?_)
          · exact absurd (i_ne c206_1) (rg_neX r86_3 (show rg (0 : Int32) 0 0 from rg_l (by decide)) (by decide))
          · have t206_2 := (i_eq c206_1)
            refine lv_aload_n hx hb dX10_turnOp_209 rfl (lv_at hl 4 rfl) ?_
            refine lv_iload hx hb dX10_turnOp_210 (lv_at hl 1 rfl) ?_
            refine go_v (k1 := 0) (n1 := 0) (wr := []) [0, 1, 2] [] (rn_V (As := [.int r14_1]) (rest := []) (c_X10_putCut l D ct tl r14_1 tls o0 p0 x_tl_3 y_tl_4104_4 o0r x_o0_1 k_o0r104_5 h_x_tl_3 (rg_of (show 0 ≤ y_tl_4104_4.toInt ∧ y_tl_4104_4.toInt ≤ 999950 by have q0 := hp104_6.1; have q1 := h_x_tl_4.2; have q2 := hp104_7; omega)) h_x_o0_1 _) (cb_of (n := 1) hn mw_1358 mw_10 mw_1355 mhX10_putCut ⟨(Nat.le_of_ble_eq_true rfl), (Nat.le_of_ble_eq_true rfl)⟩) hx hb hml hown hn hK hSK hZ hS mw_1357 mw_s157 (ci := 10) (q0 := 0) rfl rfl rfl rfl hl.1 (Nat.le_of_ble_eq_true rfl) dX10_turnOp_212 ⟨(Nat.le_of_ble_eq_true rfl), (Nat.le_of_ble_eq_true rfl)⟩) hP hD hS hA rfl rfl (by decide) (by decide) (by decide) (Nat.le_of_ble_eq_true rfl) (Nat.le_of_ble_eq_true rfl) (fun u212_2 H locs hp212_3 hP hD hS => ?_)
            obtain ⟨y_tl_4212_4, k_o0r212_5⟩ := u212_2
            obtain ⟨hp212_6, hp212_7⟩ := hp212_3
            have hp212_6 : rg y_tl_4212_4 1 1000001 := hp212_6
            have hp212_7 : y_tl_4212_4.toInt = y_tl_4104_4.toInt + 2 := hp212_7
            have hP : va_P D vwCl [(tl, .inr (10, [.ref tls, .ref o0, .ref p0, .int x_tl_3, .int y_tl_4212_4])), (o0, .inr (5, [.ref o0r, .int x_o0_1])), (o0r, .inl (ct 1, 60000, .inl k_o0r212_5))] _ := hP
            have hD : va_D A [(tl, .inr (10, [.ref tls, .ref o0, .ref p0, .int x_tl_3, .int y_tl_4212_4])), (o0, .inr (5, [.ref o0r, .int x_o0_1])), (o0r, .inl (ct 1, 60000, .inl k_o0r212_5))] := hD
            exact endq_v hQ hx hb hr hlocks dX10_turnOp_215 (y_tl_4212_4, k_o0r212_5) ⟨hp212_6, (show x_tl_4.toInt + 1 ≤ y_tl_4212_4.toInt ∧ y_tl_4212_4.toInt ≤ x_tl_4.toInt + 9 by have q0 := hp104_7; have q1 := hp212_7; omega), (show y_tl_4212_4.toInt = x_tl_4.toInt + ((d : Nat) : Int) by have q0 := r80_3.1; have q1 := (eq_shr (c := 16) (k := 4) ez7_1 (by decide) (by decide)); have q2 := hk0_2; have q3 := hk0_16; have q4 := hk0_20; have q5 := hk0_24; have q6 := hk4_1; have q7 := hp20_6; have q8 := t80_2; have q9 := hp104_7; have q10 := t206_2; have q11 := hp212_7; have q12 := (show (0 : Int32).toInt = 0 from by decide); have q13 := (show (8 : Int32).toInt = 8 from by decide); omega)⟩ hP hD hS [0, 1, 2] rfl (by decide) rfl (Nat.le_of_ble_eq_true rfl) (Nat.le_of_ble_eq_true rfl)
        · have t86_2 := (i_ne c86_1)
          have r86_3 : rg r20_1 1 1 := rg_neAl t86_2 hp20_4 (show rg (0 : Int32) 0 0 from rg_l (by decide)) (by decide)
          refine lv_bipush (v := 51) hx hb dX10_turnOp_89 (by decide) ?_
          refine lv_goto (tgt := 96) hx hb dX10_turnOp_91 (by decide) ?_
          refine lv_bipush (v := 32) hx hb dX10_turnOp_96 (by decide) ?_
          refine lv_iconst (v := 0) hx hb dX10_turnOp_98 (by decide) ?_
          refine lv_iload hx hb dX10_turnOp_99 (lv_at hl 1 rfl) ?_
          refine lv_iconst (v := 0) hx hb dX10_turnOp_101 (by decide) ?_
          refine lv_iload hx hb dX10_turnOp_102 (lv_at hl 1 rfl) ?_
          refine go_v (k1 := 0) (n1 := 0) (wr := []) [0, 1, 2] [] (rn_V (As := [.int 51, .int 32, .int 0, .int r14_1, .int 0, .int r14_1]) (rest := []) (c_X10_putOp l D ct tl (51 : Int32) (32 : Int32) (0 : Int32) r14_1 (0 : Int32) r14_1 tls o0 p0 x_tl_3 x_tl_4 o0r x_o0_1 g_o0r h_x_tl_3 (rg_w h_x_tl_4 (by decide)) h_x_o0_1 _) (cb_of (n := 6) hn mw_1329 mw_10 mw_1326 mhX10_putOp ⟨(Nat.le_of_ble_eq_true rfl), (Nat.le_of_ble_eq_true rfl)⟩) hx hb hml hown hn hK hSK hZ hS mw_1328 mw_s151 (ci := 10) (q0 := 0) rfl rfl rfl rfl hl.1 (Nat.le_of_ble_eq_true rfl) dX10_turnOp_104 ⟨(Nat.le_of_ble_eq_true rfl), (Nat.le_of_ble_eq_true rfl)⟩) hP hD hS hA rfl rfl (by decide) (by decide) (by decide) (Nat.le_of_ble_eq_true rfl) (Nat.le_of_ble_eq_true rfl) (fun u104_2 H locs hp104_3 hP hD hS => ?_)
          obtain ⟨y_tl_4104_4, k_o0r104_5⟩ := u104_2
          obtain ⟨hp104_6, hp104_7⟩ := hp104_3
          have hp104_6 : rg y_tl_4104_4 1 1000001 := hp104_6
          have hp104_7 : y_tl_4104_4.toInt = x_tl_4.toInt + 1 := hp104_7
          have hP : va_P D vwCl [(tl, .inr (10, [.ref tls, .ref o0, .ref p0, .int x_tl_3, .int y_tl_4104_4])), (o0, .inr (5, [.ref o0r, .int x_o0_1])), (o0r, .inl (ct 1, 60000, .inl k_o0r104_5))] _ := hP
          have hD : va_D A [(tl, .inr (10, [.ref tls, .ref o0, .ref p0, .int x_tl_3, .int y_tl_4104_4])), (o0, .inr (5, [.ref o0r, .int x_o0_1])), (o0r, .inl (ct 1, 60000, .inl k_o0r104_5))] := hD
          refine lv_goto (tgt := 204) hx hb dX10_turnOp_107 (by decide) ?_
          refine lv_iload hx hb dX10_turnOp_204 (lv_at hl 0 rfl) ?_
          refine lv_if_ne (tgt := 215) hx hb dX10_turnOp_206 (by decide) (fun c206_1 => ?_) (fun c206_1 => ?_)
          · have t206_2 := (i_ne c206_1)
            exact endq_v hQ hx hb hr hlocks dX10_turnOp_215 (y_tl_4104_4, k_o0r104_5) ⟨hp104_6, (show x_tl_4.toInt + 1 ≤ y_tl_4104_4.toInt ∧ y_tl_4104_4.toInt ≤ x_tl_4.toInt + 9 by have q0 := hp104_7; omega), (show y_tl_4104_4.toInt = x_tl_4.toInt + ((d : Nat) : Int) by have q0 := r86_3.1; have q1 := r86_3.2; have q2 := r80_3.1; have q3 := (eq_shr (c := 16) (k := 4) ez7_1 (by decide) (by decide)); have q4 := hk0_2; have q5 := hk0_4; have q6 := hk0_8; have q7 := hk0_12; have q8 := hk4_1; have q9 := hp20_5; have q10 := t80_2; have q11 := hp104_7; have q12 := (show (8 : Int32).toInt = 8 from by decide); omega)⟩ hP hD hS [0, 1, 2] rfl (by decide) rfl (Nat.le_of_ble_eq_true rfl) (Nat.le_of_ble_eq_true rfl)
          · exact absurd (i_eq c206_1) (rg_eqX r86_3 (show rg (0 : Int32) 0 0 from rg_l (by decide)) (by decide))
    · have t56_2 := (i_eq c56_1)
      have r56_3 : rg z7_1 11 11 := rg_eqA t56_2 r7_2 (show rg (11 : Int32) 11 11 from rg_l (by decide)) (by decide)
      refine lv_aload_n hx hb dX10_turnOp_59 rfl (lv_at hl 4 rfl) ?_
      refine lv_iload hx hb dX10_turnOp_60 (lv_at hl 1 rfl) ?_
      refine lv_lload_n hx hb dX10_turnOp_62 rfl (lv_at hl 5 rfl) ?_
      refine go_i (k1 := 0) (n1 := 0) (wr := [(tl, .inr (10, [.ref tls, .ref o0, .ref p0, .int x_tl_3, .int x_tl_4])), (o0, .inr (5, [.ref o0r, .int x_o0_1])), (o0r, .inl (ct 1, 60000, .inl g_o0r))]) [] [0, 1, 2] (rn_SN (As := [.long v0]) (rest := [.int r14_1, .ref tl]) (c_X7_sOf l D ct v0  _) (cn_of (n := 1) hn mw_989 mw_7 mw_1321 mhX7_sOf ⟨(Nat.le_of_ble_eq_true rfl), (Nat.le_of_ble_eq_true rfl)⟩) hx hb hml hown hn hK hSK hZ hS mw_988 rfl hl.1 (Nat.le_of_ble_eq_true rfl) dX10_turnOp_63 ⟨(Nat.le_of_ble_eq_true rfl), (Nat.le_of_ble_eq_true rfl)⟩) hP hD hS hA rfl rfl (by decide) (by decide) (by decide) (Nat.le_of_ble_eq_true rfl) (Nat.le_of_ble_eq_true rfl) (fun r63_1 u63_2 H locs hp63_3 hP hD hS => ?_)
      obtain ⟨hp63_4, hp63_5⟩ := hp63_3
      have hp63_4 : rg r63_1 0 15 := hp63_4
      have hp63_5 : r63_1.toInt = (v0.toInt / 4096) % 16 := hp63_5
      have hP : va_P D vwCl [(tl, .inr (10, [.ref tls, .ref o0, .ref p0, .int x_tl_3, .int x_tl_4])), (o0, .inr (5, [.ref o0r, .int x_o0_1])), (o0r, .inl (ct 1, 60000, .inl g_o0r))] _ := hP
      have hD : va_D A [(tl, .inr (10, [.ref tls, .ref o0, .ref p0, .int x_tl_3, .int x_tl_4])), (o0, .inr (5, [.ref o0r, .int x_o0_1])), (o0r, .inl (ct 1, 60000, .inl g_o0r))] := hD
      refine go_i (k1 := 0) (n1 := 0) (wr := [(tl, .inr (10, [.ref tls, .ref o0, .ref p0, .int x_tl_3, .int x_tl_4])), (o0, .inr (5, [.ref o0r, .int x_o0_1])), (o0r, .inl (ct 1, 60000, .inl g_o0r))]) [] [0, 1, 2] (rn_S (As := [.int r63_1]) (rest := [.int r14_1, .ref tl]) (c_X10_placeOf l D ct r63_1  _) (cb_of (n := 1) hn mw_1308 mw_10 mw_1306 mhX10_placeOf ⟨(Nat.le_of_ble_eq_true rfl), (Nat.le_of_ble_eq_true rfl)⟩) hx hb hml hown hn hK hSK hZ hS mw_1307 rfl hl.1 (Nat.le_of_ble_eq_true rfl) dX10_turnOp_66 ⟨(Nat.le_of_ble_eq_true rfl), (Nat.le_of_ble_eq_true rfl)⟩) hP hD hS hA rfl rfl (by decide) (by decide) (by decide) (Nat.le_of_ble_eq_true rfl) (Nat.le_of_ble_eq_true rfl) (fun r66_1 u66_2 H locs hp66_3 hP hD hS => ?_)
      have hP : va_P D vwCl [(tl, .inr (10, [.ref tls, .ref o0, .ref p0, .int x_tl_3, .int x_tl_4])), (o0, .inr (5, [.ref o0r, .int x_o0_1])), (o0r, .inl (ct 1, 60000, .inl g_o0r))] _ := hP
      have hD : va_D A [(tl, .inr (10, [.ref tls, .ref o0, .ref p0, .int x_tl_3, .int x_tl_4])), (o0, .inr (5, [.ref o0r, .int x_o0_1])), (o0r, .inl (ct 1, 60000, .inl g_o0r))] := hD
      refine lv_iconst (v := 0) hx hb dX10_turnOp_69 (by decide) ?_
      refine go_v (k1 := 0) (n1 := 0) (wr := []) [0, 1, 2] [] (rn_V (As := [.int r14_1, .int r66_1, .int 0]) (rest := []) (c_X10_putAdd l D ct tl r14_1 r66_1 (0 : Int32) tls o0 p0 x_tl_3 x_tl_4 o0r x_o0_1 g_o0r h_x_tl_3 (rg_w h_x_tl_4 (by decide)) h_x_o0_1 _) (cb_of (n := 3) hn mw_1325 mw_10 mw_1322 mhX10_putAdd ⟨(Nat.le_of_ble_eq_true rfl), (Nat.le_of_ble_eq_true rfl)⟩) hx hb hml hown hn hK hSK hZ hS mw_1324 mw_s150 (ci := 10) (q0 := 0) rfl rfl rfl rfl hl.1 (Nat.le_of_ble_eq_true rfl) dX10_turnOp_70 ⟨(Nat.le_of_ble_eq_true rfl), (Nat.le_of_ble_eq_true rfl)⟩) hP hD hS hA rfl rfl (by decide) (by decide) (by decide) (Nat.le_of_ble_eq_true rfl) (Nat.le_of_ble_eq_true rfl) (fun u70_2 H locs hp70_3 hP hD hS => ?_)
      obtain ⟨y_tl_470_4, k_o0r70_5⟩ := u70_2
      obtain ⟨hp70_6, hp70_7⟩ := hp70_3
      have hp70_6 : rg y_tl_470_4 1 1000001 := hp70_6
      have hp70_7 : y_tl_470_4.toInt = x_tl_4.toInt + 1 := hp70_7
      have hP : va_P D vwCl [(tl, .inr (10, [.ref tls, .ref o0, .ref p0, .int x_tl_3, .int y_tl_470_4])), (o0, .inr (5, [.ref o0r, .int x_o0_1])), (o0r, .inl (ct 1, 60000, .inl k_o0r70_5))] _ := hP
      have hD : va_D A [(tl, .inr (10, [.ref tls, .ref o0, .ref p0, .int x_tl_3, .int y_tl_470_4])), (o0, .inr (5, [.ref o0r, .int x_o0_1])), (o0r, .inl (ct 1, 60000, .inl k_o0r70_5))] := hD
      refine lv_goto (tgt := 204) hx hb dX10_turnOp_73 (by decide) ?_
      refine lv_iload hx hb dX10_turnOp_204 (lv_at hl 0 rfl) ?_
      refine lv_if_ne (tgt := 215) hx hb dX10_turnOp_206 (by decide) (fun c206_1 => ?_) (fun c206_1 => ?_)
      · have t206_2 := (i_ne c206_1)
        have r206_3 : rg r20_1 1 1 := rg_neAl t206_2 hp20_4 (show rg (0 : Int32) 0 0 from rg_l (by decide)) (by decide)
        exact endq_v hQ hx hb hr hlocks dX10_turnOp_215 (y_tl_470_4, k_o0r70_5) ⟨hp70_6, (show x_tl_4.toInt + 1 ≤ y_tl_470_4.toInt ∧ y_tl_470_4.toInt ≤ x_tl_4.toInt + 9 by have q0 := hp70_7; omega), (show y_tl_470_4.toInt = x_tl_4.toInt + ((d : Nat) : Int) by have q0 := r56_3.1; have q1 := r56_3.2; have q2 := t29_2; have q3 := (show (11 : Int32).toInt = 11 from by decide); omega)⟩ hP hD hS [0, 1, 2] rfl (by decide) rfl (Nat.le_of_ble_eq_true rfl) (Nat.le_of_ble_eq_true rfl)
      · have t206_2 := (i_eq c206_1)
        have r206_3 : rg r20_1 0 0 := rg_eqA t206_2 hp20_4 (show rg (0 : Int32) 0 0 from rg_l (by decide)) (by decide)
        refine lv_aload_n hx hb dX10_turnOp_209 rfl (lv_at hl 4 rfl) ?_
        refine lv_iload hx hb dX10_turnOp_210 (lv_at hl 1 rfl) ?_
        refine go_v (k1 := 0) (n1 := 0) (wr := []) [0, 1, 2] [] (rn_V (As := [.int r14_1]) (rest := []) (c_X10_putCut l D ct tl r14_1 tls o0 p0 x_tl_3 y_tl_470_4 o0r x_o0_1 k_o0r70_5 h_x_tl_3 (rg_of (show 0 ≤ y_tl_470_4.toInt ∧ y_tl_470_4.toInt ≤ 999950 by have q0 := hp70_6.1; have q1 := h_x_tl_4.2; have q2 := hp70_7; omega)) h_x_o0_1 _) (cb_of (n := 1) hn mw_1358 mw_10 mw_1355 mhX10_putCut ⟨(Nat.le_of_ble_eq_true rfl), (Nat.le_of_ble_eq_true rfl)⟩) hx hb hml hown hn hK hSK hZ hS mw_1357 mw_s157 (ci := 10) (q0 := 0) rfl rfl rfl rfl hl.1 (Nat.le_of_ble_eq_true rfl) dX10_turnOp_212 ⟨(Nat.le_of_ble_eq_true rfl), (Nat.le_of_ble_eq_true rfl)⟩) hP hD hS hA rfl rfl (by decide) (by decide) (by decide) (Nat.le_of_ble_eq_true rfl) (Nat.le_of_ble_eq_true rfl) (fun u212_2 H locs hp212_3 hP hD hS => ?_)
        obtain ⟨y_tl_4212_4, k_o0r212_5⟩ := u212_2
        obtain ⟨hp212_6, hp212_7⟩ := hp212_3
        have hp212_6 : rg y_tl_4212_4 1 1000001 := hp212_6
        have hp212_7 : y_tl_4212_4.toInt = y_tl_470_4.toInt + 2 := hp212_7
        have hP : va_P D vwCl [(tl, .inr (10, [.ref tls, .ref o0, .ref p0, .int x_tl_3, .int y_tl_4212_4])), (o0, .inr (5, [.ref o0r, .int x_o0_1])), (o0r, .inl (ct 1, 60000, .inl k_o0r212_5))] _ := hP
        have hD : va_D A [(tl, .inr (10, [.ref tls, .ref o0, .ref p0, .int x_tl_3, .int y_tl_4212_4])), (o0, .inr (5, [.ref o0r, .int x_o0_1])), (o0r, .inl (ct 1, 60000, .inl k_o0r212_5))] := hD
        exact endq_v hQ hx hb hr hlocks dX10_turnOp_215 (y_tl_4212_4, k_o0r212_5) ⟨hp212_6, (show x_tl_4.toInt + 1 ≤ y_tl_4212_4.toInt ∧ y_tl_4212_4.toInt ≤ x_tl_4.toInt + 9 by have q0 := hp70_7; have q1 := hp212_7; omega), (show y_tl_4212_4.toInt = x_tl_4.toInt + ((d : Nat) : Int) by have q0 := r56_3.1; have q1 := r56_3.2; have q2 := t29_2; have q3 := (show (11 : Int32).toInt = 11 from by decide); omega)⟩ hP hD hS [0, 1, 2] rfl (by decide) rfl (Nat.le_of_ble_eq_true rfl) (Nat.le_of_ble_eq_true rfl)
  · have t29_2 := (i_eq c29_1)
    have r29_3 : rg z7_1 11 11 := rg_eqA t29_2 r7_2 (show rg (11 : Int32) 11 11 from rg_l (by decide)) (by decide)
    refine lv_iload_n hx hb dX10_turnOp_32 rfl (lv_at hl 3 rfl) ?_
    refine go_i (k1 := 0) (n1 := 0) (wr := [(tl, .inr (10, [.ref tls, .ref o0, .ref p0, .int x_tl_3, .int x_tl_4])), (o0, .inr (5, [.ref o0r, .int x_o0_1])), (o0r, .inl (ct 1, 60000, .inl g_o0r))]) [] [0, 1, 2] (rn_SN (As := [.int r1_1]) (rest := []) (c_X7_hasS_w l D ct r1_1 hp1_4 _) (cn_of (n := 1) hn mw_968 mw_7 mw_1310 mhX7_hasS ⟨(Nat.le_of_ble_eq_true rfl), (Nat.le_of_ble_eq_true rfl)⟩) hx hb hml hown hn hK hSK hZ hS mw_967 rfl hl.1 (Nat.le_of_ble_eq_true rfl) dX10_turnOp_33 ⟨(Nat.le_of_ble_eq_true rfl), (Nat.le_of_ble_eq_true rfl)⟩) hP hD hS hA rfl rfl (by decide) (by decide) (by decide) (Nat.le_of_ble_eq_true rfl) (Nat.le_of_ble_eq_true rfl) (fun r33_1 u33_2 H locs hp33_3 hP hD hS => ?_)
    obtain ⟨hp33_4, hp33_5, hp33_6⟩ := hp33_3
    have hp33_4 : rg r33_1 0 1 := hp33_4
    have hp33_5 : r33_1.toInt = 1 → (r1_1.toInt / 8) % 2 = 1 := hp33_5
    have hp33_6 : r33_1.toInt = 0 → (r1_1.toInt / 8) % 2 = 0 := hp33_6
    have hP : va_P D vwCl [(tl, .inr (10, [.ref tls, .ref o0, .ref p0, .int x_tl_3, .int x_tl_4])), (o0, .inr (5, [.ref o0r, .int x_o0_1])), (o0r, .inl (ct 1, 60000, .inl g_o0r))] _ := hP
    have hD : va_D A [(tl, .inr (10, [.ref tls, .ref o0, .ref p0, .int x_tl_3, .int x_tl_4])), (o0, .inr (5, [.ref o0r, .int x_o0_1])), (o0r, .inl (ct 1, 60000, .inl g_o0r))] := hD
    refine lv_if_ne (tgt := 52) hx hb dX10_turnOp_36 (by decide) (fun c36_1 => ?_) (fun c36_1 => ?_)
    · have t36_2 := (i_ne c36_1)
      have r36_3 : rg r33_1 1 1 := rg_neAl t36_2 hp33_4 (show rg (0 : Int32) 0 0 from rg_l (by decide)) (by decide)
      refine lv_iload hx hb dX10_turnOp_52 (lv_at hl 2 rfl) ?_
      refine lv_bipush (v := 11) hx hb dX10_turnOp_54 (by decide) ?_
      refine lv_icmp_ne (tgt := 76) hx hb dX10_turnOp_56 (by decide) (fun c56_1 => ?_) (fun c56_1 => ?_)
      · exact absurd (i_ne c56_1) (rg_neX r29_3 (show rg (11 : Int32) 11 11 from rg_l (by decide)) (by decide))
      · have t56_2 := (i_eq c56_1)
        refine lv_aload_n hx hb dX10_turnOp_59 rfl (lv_at hl 4 rfl) ?_
        refine lv_iload hx hb dX10_turnOp_60 (lv_at hl 1 rfl) ?_
        refine lv_lload_n hx hb dX10_turnOp_62 rfl (lv_at hl 5 rfl) ?_
        refine go_i (k1 := 0) (n1 := 0) (wr := [(tl, .inr (10, [.ref tls, .ref o0, .ref p0, .int x_tl_3, .int x_tl_4])), (o0, .inr (5, [.ref o0r, .int x_o0_1])), (o0r, .inl (ct 1, 60000, .inl g_o0r))]) [] [0, 1, 2] (rn_SN (As := [.long v0]) (rest := [.int r14_1, .ref tl]) (c_X7_sOf l D ct v0  _) (cn_of (n := 1) hn mw_989 mw_7 mw_1321 mhX7_sOf ⟨(Nat.le_of_ble_eq_true rfl), (Nat.le_of_ble_eq_true rfl)⟩) hx hb hml hown hn hK hSK hZ hS mw_988 rfl hl.1 (Nat.le_of_ble_eq_true rfl) dX10_turnOp_63 ⟨(Nat.le_of_ble_eq_true rfl), (Nat.le_of_ble_eq_true rfl)⟩) hP hD hS hA rfl rfl (by decide) (by decide) (by decide) (Nat.le_of_ble_eq_true rfl) (Nat.le_of_ble_eq_true rfl) (fun r63_1 u63_2 H locs hp63_3 hP hD hS => ?_)
        obtain ⟨hp63_4, hp63_5⟩ := hp63_3
        have hp63_4 : rg r63_1 0 15 := hp63_4
        have hp63_5 : r63_1.toInt = (v0.toInt / 4096) % 16 := hp63_5
        have hP : va_P D vwCl [(tl, .inr (10, [.ref tls, .ref o0, .ref p0, .int x_tl_3, .int x_tl_4])), (o0, .inr (5, [.ref o0r, .int x_o0_1])), (o0r, .inl (ct 1, 60000, .inl g_o0r))] _ := hP
        have hD : va_D A [(tl, .inr (10, [.ref tls, .ref o0, .ref p0, .int x_tl_3, .int x_tl_4])), (o0, .inr (5, [.ref o0r, .int x_o0_1])), (o0r, .inl (ct 1, 60000, .inl g_o0r))] := hD
        refine go_i (k1 := 0) (n1 := 0) (wr := [(tl, .inr (10, [.ref tls, .ref o0, .ref p0, .int x_tl_3, .int x_tl_4])), (o0, .inr (5, [.ref o0r, .int x_o0_1])), (o0r, .inl (ct 1, 60000, .inl g_o0r))]) [] [0, 1, 2] (rn_S (As := [.int r63_1]) (rest := [.int r14_1, .ref tl]) (c_X10_placeOf l D ct r63_1  _) (cb_of (n := 1) hn mw_1308 mw_10 mw_1306 mhX10_placeOf ⟨(Nat.le_of_ble_eq_true rfl), (Nat.le_of_ble_eq_true rfl)⟩) hx hb hml hown hn hK hSK hZ hS mw_1307 rfl hl.1 (Nat.le_of_ble_eq_true rfl) dX10_turnOp_66 ⟨(Nat.le_of_ble_eq_true rfl), (Nat.le_of_ble_eq_true rfl)⟩) hP hD hS hA rfl rfl (by decide) (by decide) (by decide) (Nat.le_of_ble_eq_true rfl) (Nat.le_of_ble_eq_true rfl) (fun r66_1 u66_2 H locs hp66_3 hP hD hS => ?_)
        have hP : va_P D vwCl [(tl, .inr (10, [.ref tls, .ref o0, .ref p0, .int x_tl_3, .int x_tl_4])), (o0, .inr (5, [.ref o0r, .int x_o0_1])), (o0r, .inl (ct 1, 60000, .inl g_o0r))] _ := hP
        have hD : va_D A [(tl, .inr (10, [.ref tls, .ref o0, .ref p0, .int x_tl_3, .int x_tl_4])), (o0, .inr (5, [.ref o0r, .int x_o0_1])), (o0r, .inl (ct 1, 60000, .inl g_o0r))] := hD
        refine lv_iconst (v := 0) hx hb dX10_turnOp_69 (by decide) ?_
        refine go_v (k1 := 0) (n1 := 0) (wr := []) [0, 1, 2] [] (rn_V (As := [.int r14_1, .int r66_1, .int 0]) (rest := []) (c_X10_putAdd l D ct tl r14_1 r66_1 (0 : Int32) tls o0 p0 x_tl_3 x_tl_4 o0r x_o0_1 g_o0r h_x_tl_3 (rg_w h_x_tl_4 (by decide)) h_x_o0_1 _) (cb_of (n := 3) hn mw_1325 mw_10 mw_1322 mhX10_putAdd ⟨(Nat.le_of_ble_eq_true rfl), (Nat.le_of_ble_eq_true rfl)⟩) hx hb hml hown hn hK hSK hZ hS mw_1324 mw_s150 (ci := 10) (q0 := 0) rfl rfl rfl rfl hl.1 (Nat.le_of_ble_eq_true rfl) dX10_turnOp_70 ⟨(Nat.le_of_ble_eq_true rfl), (Nat.le_of_ble_eq_true rfl)⟩) hP hD hS hA rfl rfl (by decide) (by decide) (by decide) (Nat.le_of_ble_eq_true rfl) (Nat.le_of_ble_eq_true rfl) (fun u70_2 H locs hp70_3 hP hD hS => ?_)
        obtain ⟨y_tl_470_4, k_o0r70_5⟩ := u70_2
        obtain ⟨hp70_6, hp70_7⟩ := hp70_3
        have hp70_6 : rg y_tl_470_4 1 1000001 := hp70_6
        have hp70_7 : y_tl_470_4.toInt = x_tl_4.toInt + 1 := hp70_7
        have hP : va_P D vwCl [(tl, .inr (10, [.ref tls, .ref o0, .ref p0, .int x_tl_3, .int y_tl_470_4])), (o0, .inr (5, [.ref o0r, .int x_o0_1])), (o0r, .inl (ct 1, 60000, .inl k_o0r70_5))] _ := hP
        have hD : va_D A [(tl, .inr (10, [.ref tls, .ref o0, .ref p0, .int x_tl_3, .int y_tl_470_4])), (o0, .inr (5, [.ref o0r, .int x_o0_1])), (o0r, .inl (ct 1, 60000, .inl k_o0r70_5))] := hD
        refine lv_goto (tgt := 204) hx hb dX10_turnOp_73 (by decide) ?_
        refine lv_iload hx hb dX10_turnOp_204 (lv_at hl 0 rfl) ?_
        refine lv_if_ne (tgt := 215) hx hb dX10_turnOp_206 (by decide) (fun c206_1 => ?_) (fun c206_1 => ?_)
        · have t206_2 := (i_ne c206_1)
          have r206_3 : rg r20_1 1 1 := rg_neAl t206_2 hp20_4 (show rg (0 : Int32) 0 0 from rg_l (by decide)) (by decide)
          exact endq_v hQ hx hb hr hlocks dX10_turnOp_215 (y_tl_470_4, k_o0r70_5) ⟨hp70_6, (show x_tl_4.toInt + 1 ≤ y_tl_470_4.toInt ∧ y_tl_470_4.toInt ≤ x_tl_4.toInt + 9 by have q0 := hp70_7; omega), (show y_tl_470_4.toInt = x_tl_4.toInt + ((d : Nat) : Int) by have q0 := r206_3.1; have q1 := r206_3.2; have q2 := (eq_shr (c := 16) (k := 4) ez7_1 (by decide) (by decide)); have q3 := r36_3.1; have q4 := r36_3.2; have q5 := hk0_3; have q6 := hk4_1; have q7 := hp20_5; have q8 := hp33_5; have q9 := t56_2; have q10 := hp70_7; have q11 := (show (11 : Int32).toInt = 11 from by decide); omega)⟩ hP hD hS [0, 1, 2] rfl (by decide) rfl (Nat.le_of_ble_eq_true rfl) (Nat.le_of_ble_eq_true rfl)
        · have t206_2 := (i_eq c206_1)
          have r206_3 : rg r20_1 0 0 := rg_eqA t206_2 hp20_4 (show rg (0 : Int32) 0 0 from rg_l (by decide)) (by decide)
          refine lv_aload_n hx hb dX10_turnOp_209 rfl (lv_at hl 4 rfl) ?_
          refine lv_iload hx hb dX10_turnOp_210 (lv_at hl 1 rfl) ?_
          refine go_v (k1 := 0) (n1 := 0) (wr := []) [0, 1, 2] [] (rn_V (As := [.int r14_1]) (rest := []) (c_X10_putCut l D ct tl r14_1 tls o0 p0 x_tl_3 y_tl_470_4 o0r x_o0_1 k_o0r70_5 h_x_tl_3 (rg_of (show 0 ≤ y_tl_470_4.toInt ∧ y_tl_470_4.toInt ≤ 999950 by have q0 := hp70_6.1; have q1 := h_x_tl_4.2; have q2 := hp70_7; omega)) h_x_o0_1 _) (cb_of (n := 1) hn mw_1358 mw_10 mw_1355 mhX10_putCut ⟨(Nat.le_of_ble_eq_true rfl), (Nat.le_of_ble_eq_true rfl)⟩) hx hb hml hown hn hK hSK hZ hS mw_1357 mw_s157 (ci := 10) (q0 := 0) rfl rfl rfl rfl hl.1 (Nat.le_of_ble_eq_true rfl) dX10_turnOp_212 ⟨(Nat.le_of_ble_eq_true rfl), (Nat.le_of_ble_eq_true rfl)⟩) hP hD hS hA rfl rfl (by decide) (by decide) (by decide) (Nat.le_of_ble_eq_true rfl) (Nat.le_of_ble_eq_true rfl) (fun u212_2 H locs hp212_3 hP hD hS => ?_)
          obtain ⟨y_tl_4212_4, k_o0r212_5⟩ := u212_2
          obtain ⟨hp212_6, hp212_7⟩ := hp212_3
          have hp212_6 : rg y_tl_4212_4 1 1000001 := hp212_6
          have hp212_7 : y_tl_4212_4.toInt = y_tl_470_4.toInt + 2 := hp212_7
          have hP : va_P D vwCl [(tl, .inr (10, [.ref tls, .ref o0, .ref p0, .int x_tl_3, .int y_tl_4212_4])), (o0, .inr (5, [.ref o0r, .int x_o0_1])), (o0r, .inl (ct 1, 60000, .inl k_o0r212_5))] _ := hP
          have hD : va_D A [(tl, .inr (10, [.ref tls, .ref o0, .ref p0, .int x_tl_3, .int y_tl_4212_4])), (o0, .inr (5, [.ref o0r, .int x_o0_1])), (o0r, .inl (ct 1, 60000, .inl k_o0r212_5))] := hD
          exact endq_v hQ hx hb hr hlocks dX10_turnOp_215 (y_tl_4212_4, k_o0r212_5) ⟨hp212_6, (show x_tl_4.toInt + 1 ≤ y_tl_4212_4.toInt ∧ y_tl_4212_4.toInt ≤ x_tl_4.toInt + 9 by have q0 := hp70_7; have q1 := hp212_7; omega), (show y_tl_4212_4.toInt = x_tl_4.toInt + ((d : Nat) : Int) by have q0 := (eq_shr (c := 16) (k := 4) ez7_1 (by decide) (by decide)); have q1 := r36_3.1; have q2 := r36_3.2; have q3 := hk0_15; have q4 := hk4_1; have q5 := hp20_6; have q6 := hp33_5; have q7 := t56_2; have q8 := hp70_7; have q9 := t206_2; have q10 := hp212_7; have q11 := (show (0 : Int32).toInt = 0 from by decide); have q12 := (show (11 : Int32).toInt = 11 from by decide); omega)⟩ hP hD hS [0, 1, 2] rfl (by decide) rfl (Nat.le_of_ble_eq_true rfl) (Nat.le_of_ble_eq_true rfl)
    · have t36_2 := (i_eq c36_1)
      have r36_3 : rg r33_1 0 0 := rg_eqA t36_2 hp33_4 (show rg (0 : Int32) 0 0 from rg_l (by decide)) (by decide)
      refine lv_aload_n hx hb dX10_turnOp_39 rfl (lv_at hl 4 rfl) ?_
      refine lv_iload hx hb dX10_turnOp_40 (lv_at hl 1 rfl) ?_
      refine lv_lload_n hx hb dX10_turnOp_42 rfl (lv_at hl 5 rfl) ?_
      refine go_i (k1 := 0) (n1 := 0) (wr := [(tl, .inr (10, [.ref tls, .ref o0, .ref p0, .int x_tl_3, .int x_tl_4])), (o0, .inr (5, [.ref o0r, .int x_o0_1])), (o0r, .inl (ct 1, 60000, .inl g_o0r))]) [] [0, 1, 2] (rn_SN (As := [.long v0]) (rest := [.int r14_1, .ref tl]) (c_X7_kOf_w l D ct v0  _) (cn_of (n := 1) hn mw_995 mw_7 mw_1311 mhX7_kOf ⟨(Nat.le_of_ble_eq_true rfl), (Nat.le_of_ble_eq_true rfl)⟩) hx hb hml hown hn hK hSK hZ hS mw_994 rfl hl.1 (Nat.le_of_ble_eq_true rfl) dX10_turnOp_43 ⟨(Nat.le_of_ble_eq_true rfl), (Nat.le_of_ble_eq_true rfl)⟩) hP hD hS hA rfl rfl (by decide) (by decide) (by decide) (Nat.le_of_ble_eq_true rfl) (Nat.le_of_ble_eq_true rfl) (fun r43_1 u43_2 H locs hp43_3 hP hD hS => ?_)
      have hp43_4 := hp43_3
      have hp43_4 : r43_1.toInt = v0.toInt / 4294967296 := hp43_4
      have hP : va_P D vwCl [(tl, .inr (10, [.ref tls, .ref o0, .ref p0, .int x_tl_3, .int x_tl_4])), (o0, .inr (5, [.ref o0r, .int x_o0_1])), (o0r, .inl (ct 1, 60000, .inl g_o0r))] _ := hP
      have hD : va_D A [(tl, .inr (10, [.ref tls, .ref o0, .ref p0, .int x_tl_3, .int x_tl_4])), (o0, .inr (5, [.ref o0r, .int x_o0_1])), (o0r, .inl (ct 1, 60000, .inl g_o0r))] := hD
      have hk46_1 : r43_1.toInt = kk.toInt := FF.mk (by have h1 := FF.out hq1; have h2 := FF.out hp43_4; omega)
      refine go_v (k1 := 0) (n1 := 0) (wr := []) [0, 1, 2] [] (rn_V (As := [.int r14_1, .int r43_1]) (rest := []) (c_X10_putNumber_w l D ct tl r14_1 r43_1 tls o0 p0 x_tl_3 x_tl_4 o0r x_o0_1 g_o0r h_x_tl_3 (rg_w h_x_tl_4 (by decide)) h_x_o0_1 _) (cb_of (n := 2) hn mw_1315 mw_10 mw_1312 mhX10_putNumber ⟨(Nat.le_of_ble_eq_true rfl), (Nat.le_of_ble_eq_true rfl)⟩) hx hb hml hown hn hK hSK hZ hS mw_1314 mw_s148 (ci := 10) (q0 := 0) rfl rfl rfl rfl hl.1 (Nat.le_of_ble_eq_true rfl) dX10_turnOp_46 ⟨(Nat.le_of_ble_eq_true rfl), (Nat.le_of_ble_eq_true rfl)⟩) hP hD hS hA rfl rfl (by decide) (by decide) (by decide) (Nat.le_of_ble_eq_true rfl) (Nat.le_of_ble_eq_true rfl) (fun u46_3 H locs hp46_4 hP hD hS => ?_)
      obtain ⟨y_tl_446_5, k_o0r46_6⟩ := u46_3
      obtain ⟨hp46_7, hp46_8, hp46_9, hp46_10⟩ := hp46_4
      have hp46_7 : rg y_tl_446_5 1 1000001 := hp46_7
      have hp46_8 : x_tl_4.toInt + 1 ≤ y_tl_446_5.toInt ∧ y_tl_446_5.toInt ≤ x_tl_4.toInt + 2 := hp46_8
      have hp46_9 : -2048 ≤ r43_1.toInt ∧ r43_1.toInt ≤ 2047 → y_tl_446_5.toInt = x_tl_4.toInt + 1 := hp46_9
      have hp46_10 : r43_1.toInt < -2048 ∨ 2047 < r43_1.toInt → y_tl_446_5.toInt = x_tl_4.toInt + 2 := hp46_10
      have hP : va_P D vwCl [(tl, .inr (10, [.ref tls, .ref o0, .ref p0, .int x_tl_3, .int y_tl_446_5])), (o0, .inr (5, [.ref o0r, .int x_o0_1])), (o0r, .inl (ct 1, 60000, .inl k_o0r46_6))] _ := hP
      have hD : va_D A [(tl, .inr (10, [.ref tls, .ref o0, .ref p0, .int x_tl_3, .int y_tl_446_5])), (o0, .inr (5, [.ref o0r, .int x_o0_1])), (o0r, .inl (ct 1, 60000, .inl k_o0r46_6))] := hD
      refine lv_goto (tgt := 204) hx hb dX10_turnOp_49 (by decide) ?_
      refine lv_iload hx hb dX10_turnOp_204 (lv_at hl 0 rfl) ?_
      refine lv_if_ne (tgt := 215) hx hb dX10_turnOp_206 (by decide) (fun c206_1 => ?_) (fun c206_1 => ?_)
      · have t206_2 := (i_ne c206_1)
        have r206_3 : rg r20_1 1 1 := rg_neAl t206_2 hp20_4 (show rg (0 : Int32) 0 0 from rg_l (by decide)) (by decide)
        exact endq_v hQ hx hb hr hlocks dX10_turnOp_215 (y_tl_446_5, k_o0r46_6) ⟨hp46_7, (show x_tl_4.toInt + 1 ≤ y_tl_446_5.toInt ∧ y_tl_446_5.toInt ≤ x_tl_4.toInt + 9 by have q0 := hp46_8; omega), (show y_tl_446_5.toInt = x_tl_4.toInt + ((d : Nat) : Int) by have q0 := r206_3.1; have q1 := r206_3.2; have q2 := (eq_shr (c := 16) (k := 4) ez7_1 (by decide) (by decide)); have q3 := hk0_2; have q4 := hk0_7; have q5 := hk0_11; have q6 := hk4_1; have q7 := hp20_5; have q8 := t29_2; have q9 := hp33_6; have q10 := t36_2; have q11 := hk46_1; have q12 := hp46_8; have q13 := hp46_9; have q14 := hp46_10; have q15 := (show (0 : Int32).toInt = 0 from by decide); have q16 := (show (11 : Int32).toInt = 11 from by decide); omega)⟩ hP hD hS [0, 1, 2] rfl (by decide) rfl (Nat.le_of_ble_eq_true rfl) (Nat.le_of_ble_eq_true rfl)
      · have t206_2 := (i_eq c206_1)
        have r206_3 : rg r20_1 0 0 := rg_eqA t206_2 hp20_4 (show rg (0 : Int32) 0 0 from rg_l (by decide)) (by decide)
        refine lv_aload_n hx hb dX10_turnOp_209 rfl (lv_at hl 4 rfl) ?_
        refine lv_iload hx hb dX10_turnOp_210 (lv_at hl 1 rfl) ?_
        refine go_v (k1 := 0) (n1 := 0) (wr := []) [0, 1, 2] [] (rn_V (As := [.int r14_1]) (rest := []) (c_X10_putCut l D ct tl r14_1 tls o0 p0 x_tl_3 y_tl_446_5 o0r x_o0_1 k_o0r46_6 h_x_tl_3 (rg_of (show 0 ≤ y_tl_446_5.toInt ∧ y_tl_446_5.toInt ≤ 999950 by have q0 := h_x_tl_4.1; have q1 := h_x_tl_4.2; have q2 := hp46_8; omega)) h_x_o0_1 _) (cb_of (n := 1) hn mw_1358 mw_10 mw_1355 mhX10_putCut ⟨(Nat.le_of_ble_eq_true rfl), (Nat.le_of_ble_eq_true rfl)⟩) hx hb hml hown hn hK hSK hZ hS mw_1357 mw_s157 (ci := 10) (q0 := 0) rfl rfl rfl rfl hl.1 (Nat.le_of_ble_eq_true rfl) dX10_turnOp_212 ⟨(Nat.le_of_ble_eq_true rfl), (Nat.le_of_ble_eq_true rfl)⟩) hP hD hS hA rfl rfl (by decide) (by decide) (by decide) (Nat.le_of_ble_eq_true rfl) (Nat.le_of_ble_eq_true rfl) (fun u212_2 H locs hp212_3 hP hD hS => ?_)
        obtain ⟨y_tl_4212_4, k_o0r212_5⟩ := u212_2
        obtain ⟨hp212_6, hp212_7⟩ := hp212_3
        have hp212_6 : rg y_tl_4212_4 1 1000001 := hp212_6
        have hp212_7 : y_tl_4212_4.toInt = y_tl_446_5.toInt + 2 := hp212_7
        have hP : va_P D vwCl [(tl, .inr (10, [.ref tls, .ref o0, .ref p0, .int x_tl_3, .int y_tl_4212_4])), (o0, .inr (5, [.ref o0r, .int x_o0_1])), (o0r, .inl (ct 1, 60000, .inl k_o0r212_5))] _ := hP
        have hD : va_D A [(tl, .inr (10, [.ref tls, .ref o0, .ref p0, .int x_tl_3, .int y_tl_4212_4])), (o0, .inr (5, [.ref o0r, .int x_o0_1])), (o0r, .inl (ct 1, 60000, .inl k_o0r212_5))] := hD
        exact endq_v hQ hx hb hr hlocks dX10_turnOp_215 (y_tl_4212_4, k_o0r212_5) ⟨hp212_6, (show x_tl_4.toInt + 1 ≤ y_tl_4212_4.toInt ∧ y_tl_4212_4.toInt ≤ x_tl_4.toInt + 9 by have q0 := hp46_8; have q1 := hp212_7; omega), (show y_tl_4212_4.toInt = x_tl_4.toInt + ((d : Nat) : Int) by have q0 := (eq_shr (c := 16) (k := 4) ez7_1 (by decide) (by decide)); have q1 := hk0_2; have q2 := hk0_19; have q3 := hk0_23; have q4 := hk4_1; have q5 := hp20_6; have q6 := t29_2; have q7 := hp33_6; have q8 := t36_2; have q9 := hk46_1; have q10 := hp46_8; have q11 := hp46_9; have q12 := hp46_10; have q13 := t206_2; have q14 := hp212_7; have q15 := (show (0 : Int32).toInt = 0 from by decide); have q16 := (show (11 : Int32).toInt = 11 from by decide); omega)⟩ hP hD hS [0, 1, 2] rfl (by decide) rfl (Nat.le_of_ble_eq_true rfl) (Nat.le_of_ble_eq_true rfl)
set_option maxHeartbeats 2000000 in
theorem c_X10_turnJump_w (l : Launch) (D : va_G) (ct : Nat → ClassId) (d : Nat) (cc : Int32) (kk : Int32) (tl : Nat) (v0 : Int64) (v1 : Int32) (tls : Nat) (o0 : Nat) (p0 : Nat) (x_tl_3 : Int32) (x_tl_4 : Int32) (o0r : Nat) (x_o0_1 : Int32) (g_o0r : Nat → Int32) (g_tls : Nat → Int32) (h_x_tl_3 : rg x_tl_3 0 1) (h_x_tl_4 : rg x_tl_4 0 999800) (h_x_o0_1 : rg x_o0_1 0 60000) (h_g_tls : Rg g_tls 4001 0 1073741824) (hq0 : cc.toInt = v0.toInt % 256) (hq1 : kk.toInt = v0.toInt / 4294967296) (hg0 : TWjump cc.toInt kk.toInt d) : KV (S := Int32 × (Nat → Int32)) l yX10_turnJump cX10_turnJump 7 none 4 90 D ct [.ref tl, .long v0, .int v1] [(tl, .inr (10, [.ref tls, .ref o0, .ref p0, .int x_tl_3, .int x_tl_4])), (o0, .inr (5, [.ref o0r, .int x_o0_1])), (o0r, .inl (ct 1, 60000, .inl g_o0r)), (tls, .inl (ct 1, 4001, .inl g_tls))] 0 0 (fun (u : Int32 × (Nat → Int32)) => match u with | (y_tl_4, k_o0r) => rg y_tl_4 1 1000001 ∧ (x_tl_4.toInt + 1 ≤ y_tl_4.toInt ∧ y_tl_4.toInt ≤ x_tl_4.toInt + 7) ∧ (y_tl_4.toInt = x_tl_4.toInt + ((d : Nat) : Int))) (fun (u : Int32 × (Nat → Int32)) => match u with | (y_tl_4, k_o0r) => [(tl, .inr (10, [.ref tls, .ref o0, .ref p0, .int x_tl_3, .int y_tl_4])), (o0, .inr (5, [.ref o0r, .int x_o0_1])), (o0r, .inl (ct 1, 60000, .inl k_o0r)), (tls, .inl (ct 1, 4001, .inl g_tls))]) := by
  refine KVq_of (by decide) (Nat.le_of_ble_eq_true rfl) (fun p e s m below meth c A Q C0 hA H locs hS hP hD hQ ls hl => ?_)
  obtain ⟨hx, hb, hr, hown, hin, hml, hlocks, hn, hK, hZ, hSK⟩ := C0
  have hl : lv_has ls 7 [(0, .ref tl), (1, .long v0), (3, .int v1)] := hl
  obtain ⟨tw0_1_0, tw0_1_1, tw0_1_2, tw0_1_3, tw0_1_4, tw0_1_5, tw0_1_6, tw0_1_7, tw0_1_8, tw0_1_9, tw0_1_10, tw0_1_11, tw0_1_12⟩ := hg0
  have hk0_2 : ((cc.toInt / 8) % 2 = 1) ∨ ((cc.toInt / 8) % 2 = 0 ∧ (-2048 ≤ kk.toInt ∧ kk.toInt ≤ 2047)) ∨ ((cc.toInt / 8) % 2 = 0 ∧ (kk.toInt < -2048 ∨ 2047 < kk.toInt)) := FF.mk (by omega)
  have hk0_3 : cc.toInt = 5 → ((d : Nat) : Int) = 1 := FF.mk tw0_1_0
  have hk0_4 : cc.toInt ≠ 5 ∧ (cc.toInt % 8 = 7 ∨ cc.toInt % 8 = 5) ∧ (cc.toInt / 8) % 2 = 1 ∧ cc.toInt / 16 = 4 → ((d : Nat) : Int) = 3 := FF.mk tw0_1_1
  have hk0_5 : cc.toInt ≠ 5 ∧ (cc.toInt % 8 = 7 ∨ cc.toInt % 8 = 5) ∧ (cc.toInt / 8) % 2 = 1 ∧ cc.toInt / 16 ≠ 4 → ((d : Nat) : Int) = 2 := FF.mk tw0_1_2
  have hk0_6 : cc.toInt ≠ 5 ∧ (cc.toInt % 8 = 7 ∨ cc.toInt % 8 = 5) ∧ (cc.toInt / 8) % 2 = 0 ∧ (-2048 ≤ kk.toInt ∧ kk.toInt ≤ 2047) ∧ cc.toInt / 16 = 4 → ((d : Nat) : Int) = 4 := FF.mk tw0_1_3
  have hk0_7 : cc.toInt ≠ 5 ∧ (cc.toInt % 8 = 7 ∨ cc.toInt % 8 = 5) ∧ (cc.toInt / 8) % 2 = 0 ∧ (-2048 ≤ kk.toInt ∧ kk.toInt ≤ 2047) ∧ cc.toInt / 16 ≠ 4 → ((d : Nat) : Int) = 3 := FF.mk tw0_1_4
  have hk0_8 : cc.toInt ≠ 5 ∧ (cc.toInt % 8 = 7 ∨ cc.toInt % 8 = 5) ∧ (cc.toInt / 8) % 2 = 0 ∧ (kk.toInt < -2048 ∨ 2047 < kk.toInt) ∧ cc.toInt / 16 = 4 → ((d : Nat) : Int) = 5 := FF.mk tw0_1_5
  have hk0_9 : cc.toInt ≠ 5 ∧ (cc.toInt % 8 = 7 ∨ cc.toInt % 8 = 5) ∧ (cc.toInt / 8) % 2 = 0 ∧ (kk.toInt < -2048 ∨ 2047 < kk.toInt) ∧ cc.toInt / 16 ≠ 4 → ((d : Nat) : Int) = 4 := FF.mk tw0_1_6
  have hk0_10 : cc.toInt ≠ 5 ∧ ¬ (cc.toInt % 8 = 7 ∨ cc.toInt % 8 = 5) ∧ (cc.toInt / 8) % 2 = 1 ∧ cc.toInt / 16 = 4 → ((d : Nat) : Int) = 5 := FF.mk tw0_1_7
  have hk0_11 : cc.toInt ≠ 5 ∧ ¬ (cc.toInt % 8 = 7 ∨ cc.toInt % 8 = 5) ∧ (cc.toInt / 8) % 2 = 1 ∧ cc.toInt / 16 ≠ 4 → ((d : Nat) : Int) = 4 := FF.mk tw0_1_8
  have hk0_12 : cc.toInt ≠ 5 ∧ ¬ (cc.toInt % 8 = 7 ∨ cc.toInt % 8 = 5) ∧ (cc.toInt / 8) % 2 = 0 ∧ (-2048 ≤ kk.toInt ∧ kk.toInt ≤ 2047) ∧ cc.toInt / 16 = 4 → ((d : Nat) : Int) = 6 := FF.mk tw0_1_9
  have hk0_13 : cc.toInt ≠ 5 ∧ ¬ (cc.toInt % 8 = 7 ∨ cc.toInt % 8 = 5) ∧ (cc.toInt / 8) % 2 = 0 ∧ (-2048 ≤ kk.toInt ∧ kk.toInt ≤ 2047) ∧ cc.toInt / 16 ≠ 4 → ((d : Nat) : Int) = 5 := FF.mk tw0_1_10
  have hk0_14 : cc.toInt ≠ 5 ∧ ¬ (cc.toInt % 8 = 7 ∨ cc.toInt % 8 = 5) ∧ (cc.toInt / 8) % 2 = 0 ∧ (kk.toInt < -2048 ∨ 2047 < kk.toInt) ∧ cc.toInt / 16 = 4 → ((d : Nat) : Int) = 7 := FF.mk tw0_1_11
  have hk0_15 : cc.toInt ≠ 5 ∧ ¬ (cc.toInt % 8 = 7 ∨ cc.toInt % 8 = 5) ∧ (cc.toInt / 8) % 2 = 0 ∧ (kk.toInt < -2048 ∨ 2047 < kk.toInt) ∧ cc.toInt / 16 ≠ 4 → ((d : Nat) : Int) = 6 := FF.mk tw0_1_12
  refine lv_lload_n hx hb dX10_turnJump_0 rfl (lv_at hl 1 rfl) ?_
  refine go_i (k1 := 0) (n1 := 0) (wr := [(tl, .inr (10, [.ref tls, .ref o0, .ref p0, .int x_tl_3, .int x_tl_4])), (o0, .inr (5, [.ref o0r, .int x_o0_1])), (o0r, .inl (ct 1, 60000, .inl g_o0r)), (tls, .inl (ct 1, 4001, .inl g_tls))]) [] [0, 1, 2, 3] (rn_SN (As := [.long v0]) (rest := []) (c_X7_codeOf l D ct v0  _) (cn_of (n := 1) hn mw_956 mw_7 mw_1299 mhX7_codeOf ⟨(Nat.le_of_ble_eq_true rfl), (Nat.le_of_ble_eq_true rfl)⟩) hx hb hml hown hn hK hSK hZ hS mw_955 rfl hl.1 (Nat.le_of_ble_eq_true rfl) dX10_turnJump_1 ⟨(Nat.le_of_ble_eq_true rfl), (Nat.le_of_ble_eq_true rfl)⟩) hP hD hS hA rfl rfl (by decide) (by decide) (by decide) (Nat.le_of_ble_eq_true rfl) (Nat.le_of_ble_eq_true rfl) (fun r1_1 u1_2 H locs hp1_3 hP hD hS => ?_)
  obtain ⟨hp1_4, hp1_5⟩ := hp1_3
  have hp1_4 : rg r1_1 0 255 := hp1_4
  have hp1_5 : r1_1.toInt = v0.toInt % 256 := hp1_5
  have hP : va_P D vwCl [(tl, .inr (10, [.ref tls, .ref o0, .ref p0, .int x_tl_3, .int x_tl_4])), (o0, .inr (5, [.ref o0r, .int x_o0_1])), (o0r, .inl (ct 1, 60000, .inl g_o0r)), (tls, .inl (ct 1, 4001, .inl g_tls))] _ := hP
  have hD : va_D A [(tl, .inr (10, [.ref tls, .ref o0, .ref p0, .int x_tl_3, .int x_tl_4])), (o0, .inr (5, [.ref o0r, .int x_o0_1])), (o0r, .inl (ct 1, 60000, .inl g_o0r)), (tls, .inl (ct 1, 4001, .inl g_tls))] := hD
  have hk4_1 : r1_1.toInt = cc.toInt := FF.mk (by have h1 := FF.out hq0; have h2 := FF.out hp1_5; omega)
  refine lv_istore (lv' := [(4, .int r1_1), (0, .ref tl), (1, .long v0), (3, .int v1)]) hx hb dX10_turnJump_4 hl (by decide) rfl (fun ls hl => ?_)
  refine lv_iload hx hb dX10_turnJump_6 (lv_at hl 0 rfl) ?_
  refine lv_iconst (v := 5) hx hb dX10_turnJump_8 (by decide) ?_
  refine lv_icmp_eq (tgt := 80) hx hb dX10_turnJump_9 (by decide) (fun c9_1 => ?_) (fun c9_1 => ?_)
  · have t9_2 := (i_eq c9_1)
    have r9_3 : rg r1_1 5 5 := rg_eqA t9_2 hp1_4 (show rg (5 : Int32) 5 5 from rg_l (by decide)) (by decide)
    refine lv_iload_n hx hb dX10_turnJump_80 rfl (lv_at hl 3 rfl) ?_
    refine lv_iconst (v := 1) hx hb dX10_turnJump_81 (by decide) ?_
    refine lv_iadd hx hb dX10_turnJump_82 ?_
    refine lv_topi (fun z82_1 ez82_1 => ?_)
    refine lv_lload_n hx hb dX10_turnJump_83 rfl (lv_at hl 2 rfl) ?_
    refine go_i (k1 := 0) (n1 := 0) (wr := [(tl, .inr (10, [.ref tls, .ref o0, .ref p0, .int x_tl_3, .int x_tl_4])), (o0, .inr (5, [.ref o0r, .int x_o0_1])), (o0r, .inl (ct 1, 60000, .inl g_o0r)), (tls, .inl (ct 1, 4001, .inl g_tls))]) [] [0, 1, 2, 3] (rn_SN (As := [.long v0]) (rest := [.int z82_1]) (c_X7_offOf_w l D ct v0  _) (cn_of (n := 1) hn mw_992 mw_7 mw_1368 mhX7_offOf ⟨(Nat.le_of_ble_eq_true rfl), (Nat.le_of_ble_eq_true rfl)⟩) hx hb hml hown hn hK hSK hZ hS mw_991 rfl hl.1 (Nat.le_of_ble_eq_true rfl) dX10_turnJump_84 ⟨(Nat.le_of_ble_eq_true rfl), (Nat.le_of_ble_eq_true rfl)⟩) hP hD hS hA rfl rfl (by decide) (by decide) (by decide) (Nat.le_of_ble_eq_true rfl) (Nat.le_of_ble_eq_true rfl) (fun r84_1 u84_2 H locs hp84_3 hP hD hS => ?_)
    obtain ⟨hp84_4, hp84_5⟩ := hp84_3
    have hp84_4 : rg r84_1 (-32768) 32767 := hp84_4
    have hp84_5 : r84_1.toInt = (v0.toInt / 65536 + 32768) % 65536 - 32768 := hp84_5
    have hP : va_P D vwCl [(tl, .inr (10, [.ref tls, .ref o0, .ref p0, .int x_tl_3, .int x_tl_4])), (o0, .inr (5, [.ref o0r, .int x_o0_1])), (o0r, .inl (ct 1, 60000, .inl g_o0r)), (tls, .inl (ct 1, 4001, .inl g_tls))] _ := hP
    have hD : va_D A [(tl, .inr (10, [.ref tls, .ref o0, .ref p0, .int x_tl_3, .int x_tl_4])), (o0, .inr (5, [.ref o0r, .int x_o0_1])), (o0r, .inl (ct 1, 60000, .inl g_o0r)), (tls, .inl (ct 1, 4001, .inl g_tls))] := hD
    refine lv_iadd hx hb dX10_turnJump_87 ?_
    refine lv_topi (fun z87_1 ez87_1 => ?_)
    refine lv_istore (lv' := [(5, .int z87_1), (4, .int r1_1), (0, .ref tl), (1, .long v0), (3, .int v1)]) hx hb dX10_turnJump_88 hl (by decide) rfl (fun ls hl => ?_)
    refine lv_aload_n hx hb dX10_turnJump_90 rfl (lv_at hl 2 rfl) ?_
    refine lv_iload hx hb dX10_turnJump_91 (lv_at hl 0 rfl) ?_
    refine lv_if_lt (tgt := 106) hx hb dX10_turnJump_93 (by decide) (fun c93_1 => ?_) (fun c93_1 => ?_)
    · have t93_2 := (i_lt c93_1)
      have r93_3 : rg z87_1 (-2147483648) (-1) := rg_ltA t93_2 (rg_any z87_1) (show rg (0 : Int32) 0 0 from rg_l (by decide)) (by decide)
      refine lv_iconst (v := 0) hx hb dX10_turnJump_106 (by decide) ?_
      refine lv_goto (tgt := 124) hx hb dX10_turnJump_107 (by decide) ?_
      refine go_v (k1 := 0) (n1 := 0) (wr := [(tls, .inl (ct 1, 4001, .inl g_tls))]) [0, 1, 2] [3] (rn_V (As := [.int 0]) (rest := []) (c_X10_putGoing l D ct tl (0 : Int32) tls o0 p0 x_tl_3 x_tl_4 o0r x_o0_1 g_o0r h_x_tl_3 (rg_w h_x_tl_4 (by decide)) h_x_o0_1 _) (cb_of (n := 1) hn mw_1349 mw_10 mw_1346 mhX10_putGoing ⟨(Nat.le_of_ble_eq_true rfl), (Nat.le_of_ble_eq_true rfl)⟩) hx hb hml hown hn hK hSK hZ hS mw_1348 mw_s156 (ci := 10) (q0 := 0) rfl rfl rfl rfl hl.1 (Nat.le_of_ble_eq_true rfl) dX10_turnJump_124 ⟨(Nat.le_of_ble_eq_true rfl), (Nat.le_of_ble_eq_true rfl)⟩) hP hD hS hA rfl rfl (by decide) (by decide) (by decide) (Nat.le_of_ble_eq_true rfl) (Nat.le_of_ble_eq_true rfl) (fun u124_2 H locs hp124_3 hP hD hS => ?_)
      obtain ⟨y_tl_4124_4, k_o0r124_5⟩ := u124_2
      obtain ⟨hp124_6, hp124_7⟩ := hp124_3
      have hp124_6 : rg y_tl_4124_4 1 1000001 := hp124_6
      have hp124_7 : y_tl_4124_4.toInt = x_tl_4.toInt + 1 := hp124_7
      have hP : va_P D vwCl [(tls, .inl (ct 1, 4001, .inl g_tls)), (tl, .inr (10, [.ref tls, .ref o0, .ref p0, .int x_tl_3, .int y_tl_4124_4])), (o0, .inr (5, [.ref o0r, .int x_o0_1])), (o0r, .inl (ct 1, 60000, .inl k_o0r124_5))] _ := hP
      have hD : va_D A [(tls, .inl (ct 1, 4001, .inl g_tls)), (tl, .inr (10, [.ref tls, .ref o0, .ref p0, .int x_tl_3, .int y_tl_4124_4])), (o0, .inr (5, [.ref o0r, .int x_o0_1])), (o0r, .inl (ct 1, 60000, .inl k_o0r124_5))] := hD
      exact endq_v hQ hx hb hr hlocks dX10_turnJump_127 (y_tl_4124_4, k_o0r124_5) ⟨hp124_6, (show x_tl_4.toInt + 1 ≤ y_tl_4124_4.toInt ∧ y_tl_4124_4.toInt ≤ x_tl_4.toInt + 7 by have q0 := hp124_7; omega), (show y_tl_4124_4.toInt = x_tl_4.toInt + ((d : Nat) : Int) by have q0 := r9_3.1; have q1 := r9_3.2; have q2 := hk0_3; have q3 := hk4_1; have q4 := hp124_7; omega)⟩ hP hD hS [1, 2, 3, 0] rfl (by decide) rfl (Nat.le_of_ble_eq_true rfl) (Nat.le_of_ble_eq_true rfl)
    · have t93_2 := (i_nlt c93_1)
      have r93_3 : rg z87_1 0 2147483647 := rg_leB t93_2 (show rg (0 : Int32) 0 0 from rg_l (by decide)) (rg_any z87_1) (by decide)
      refine lv_iload hx hb dX10_turnJump_96 (lv_at hl 0 rfl) ?_
      refine lv_aload_n hx hb dX10_turnJump_98 rfl (lv_at hl 2 rfl) ?_
      refine va_get (D := D) (ci := 10) (v := .ref tls) (C := RX10) (T := TX10) (N := 5) hx hb (htX10 hn) (fun _ h => h) hown hK hP 0 rfl rfl 0 (by decide) (hn.get mw_288 rfl) (fun _ h9 => h9) rfl dX10_turnJump_99 ?_
      refine va_alen (v := 4001) hx hb hK hP 3 1 rfl rfl (show Int32.ofNat 4001 = 4001 by decide) dX10_turnJump_102 ?_
      refine lv_icmp_lt (tgt := 110) hx hb dX10_turnJump_103 (by decide) (fun c103_1 => ?_) (fun c103_1 => ?_)
      · have t103_2 := (i_lt c103_1)
        have r103_3 : rg z87_1 0 4000 := rg_ltA t103_2 r93_3 (show rg (4001 : Int32) 4001 4001 from rg_l (by decide)) (by decide)
        refine lv_iconst (v := 4) hx hb dX10_turnJump_110 (by decide) ?_
        refine lv_aload_n hx hb dX10_turnJump_111 rfl (lv_at hl 2 rfl) ?_
        refine va_get (D := D) (ci := 10) (v := .ref tls) (C := RX10) (T := TX10) (N := 5) hx hb (htX10 hn) (fun _ h => h) hown hK hP 0 rfl rfl 0 (by decide) (hn.get mw_288 rfl) (fun _ h9 => h9) rfl dX10_turnJump_112 ?_
        refine lv_iload hx hb dX10_turnJump_115 (lv_at hl 0 rfl) ?_
        have hi117_1 : vp_in z87_1 4001 := (in_rg r103_3 (by decide))
        refine va_iald hx hb hK hP 3 1 rfl rfl hi117_1 dX10_turnJump_117 ?_
        refine lv_topi (fun z117_2 ez117_2 => ?_)
        have r117_3 : rg z117_2 0 1073741824 := Rg_at h_g_tls hi117_1 ez117_2
        refine lv_aload_n hx hb dX10_turnJump_118 rfl (lv_at hl 2 rfl) ?_
        refine va_get (D := D) (ci := 10) (v := .int x_tl_4) (C := RX10) (T := TX10) (N := 5) hx hb (htX10 hn) (fun _ h => h) hown hK hP 0 rfl rfl 4 (by decide) (hn.get mw_292 rfl) (fun _ h9 => h9) rfl dX10_turnJump_119 ?_
        refine lv_isub hx hb dX10_turnJump_122 ?_
        refine lv_topi (fun z122_1 ez122_1 => ?_)
        have r122_2 : rg z122_1 (-999800) 1073741824 := rg_sub ez122_1 r117_3 h_x_tl_4 (by decide)
        refine lv_imul hx hb dX10_turnJump_123 ?_
        refine lv_topi (fun z123_1 ez123_1 => ?_)
        refine go_v (k1 := 0) (n1 := 0) (wr := [(tls, .inl (ct 1, 4001, .inl g_tls))]) [0, 1, 2] [3] (rn_V (As := [.int z123_1]) (rest := []) (c_X10_putGoing l D ct tl z123_1 tls o0 p0 x_tl_3 x_tl_4 o0r x_o0_1 g_o0r h_x_tl_3 (rg_w h_x_tl_4 (by decide)) h_x_o0_1 _) (cb_of (n := 1) hn mw_1349 mw_10 mw_1346 mhX10_putGoing ⟨(Nat.le_of_ble_eq_true rfl), (Nat.le_of_ble_eq_true rfl)⟩) hx hb hml hown hn hK hSK hZ hS mw_1348 mw_s156 (ci := 10) (q0 := 0) rfl rfl rfl rfl hl.1 (Nat.le_of_ble_eq_true rfl) dX10_turnJump_124 ⟨(Nat.le_of_ble_eq_true rfl), (Nat.le_of_ble_eq_true rfl)⟩) hP hD hS hA rfl rfl (by decide) (by decide) (by decide) (Nat.le_of_ble_eq_true rfl) (Nat.le_of_ble_eq_true rfl) (fun u124_2 H locs hp124_3 hP hD hS => ?_)
        obtain ⟨y_tl_4124_4, k_o0r124_5⟩ := u124_2
        obtain ⟨hp124_6, hp124_7⟩ := hp124_3
        have hp124_6 : rg y_tl_4124_4 1 1000001 := hp124_6
        have hp124_7 : y_tl_4124_4.toInt = x_tl_4.toInt + 1 := hp124_7
        have hP : va_P D vwCl [(tls, .inl (ct 1, 4001, .inl g_tls)), (tl, .inr (10, [.ref tls, .ref o0, .ref p0, .int x_tl_3, .int y_tl_4124_4])), (o0, .inr (5, [.ref o0r, .int x_o0_1])), (o0r, .inl (ct 1, 60000, .inl k_o0r124_5))] _ := hP
        have hD : va_D A [(tls, .inl (ct 1, 4001, .inl g_tls)), (tl, .inr (10, [.ref tls, .ref o0, .ref p0, .int x_tl_3, .int y_tl_4124_4])), (o0, .inr (5, [.ref o0r, .int x_o0_1])), (o0r, .inl (ct 1, 60000, .inl k_o0r124_5))] := hD
        exact endq_v hQ hx hb hr hlocks dX10_turnJump_127 (y_tl_4124_4, k_o0r124_5) ⟨hp124_6, (show x_tl_4.toInt + 1 ≤ y_tl_4124_4.toInt ∧ y_tl_4124_4.toInt ≤ x_tl_4.toInt + 7 by have q0 := hp124_7; omega), (show y_tl_4124_4.toInt = x_tl_4.toInt + ((d : Nat) : Int) by have q0 := r9_3.1; have q1 := r9_3.2; have q2 := hk0_3; have q3 := hk4_1; have q4 := hp124_7; omega)⟩ hP hD hS [1, 2, 3, 0] rfl (by decide) rfl (Nat.le_of_ble_eq_true rfl) (Nat.le_of_ble_eq_true rfl)
      · have t103_2 := (i_nlt c103_1)
        have r103_3 : rg z87_1 4001 2147483647 := rg_leB t103_2 (show rg (4001 : Int32) 4001 4001 from rg_l (by decide)) r93_3 (by decide)
        refine lv_iconst (v := 0) hx hb dX10_turnJump_106 (by decide) ?_
        refine lv_goto (tgt := 124) hx hb dX10_turnJump_107 (by decide) ?_
        refine go_v (k1 := 0) (n1 := 0) (wr := [(tls, .inl (ct 1, 4001, .inl g_tls))]) [0, 1, 2] [3] (rn_V (As := [.int 0]) (rest := []) (c_X10_putGoing l D ct tl (0 : Int32) tls o0 p0 x_tl_3 x_tl_4 o0r x_o0_1 g_o0r h_x_tl_3 (rg_w h_x_tl_4 (by decide)) h_x_o0_1 _) (cb_of (n := 1) hn mw_1349 mw_10 mw_1346 mhX10_putGoing ⟨(Nat.le_of_ble_eq_true rfl), (Nat.le_of_ble_eq_true rfl)⟩) hx hb hml hown hn hK hSK hZ hS mw_1348 mw_s156 (ci := 10) (q0 := 0) rfl rfl rfl rfl hl.1 (Nat.le_of_ble_eq_true rfl) dX10_turnJump_124 ⟨(Nat.le_of_ble_eq_true rfl), (Nat.le_of_ble_eq_true rfl)⟩) hP hD hS hA rfl rfl (by decide) (by decide) (by decide) (Nat.le_of_ble_eq_true rfl) (Nat.le_of_ble_eq_true rfl) (fun u124_2 H locs hp124_3 hP hD hS => ?_)
        obtain ⟨y_tl_4124_4, k_o0r124_5⟩ := u124_2
        obtain ⟨hp124_6, hp124_7⟩ := hp124_3
        have hp124_6 : rg y_tl_4124_4 1 1000001 := hp124_6
        have hp124_7 : y_tl_4124_4.toInt = x_tl_4.toInt + 1 := hp124_7
        have hP : va_P D vwCl [(tls, .inl (ct 1, 4001, .inl g_tls)), (tl, .inr (10, [.ref tls, .ref o0, .ref p0, .int x_tl_3, .int y_tl_4124_4])), (o0, .inr (5, [.ref o0r, .int x_o0_1])), (o0r, .inl (ct 1, 60000, .inl k_o0r124_5))] _ := hP
        have hD : va_D A [(tls, .inl (ct 1, 4001, .inl g_tls)), (tl, .inr (10, [.ref tls, .ref o0, .ref p0, .int x_tl_3, .int y_tl_4124_4])), (o0, .inr (5, [.ref o0r, .int x_o0_1])), (o0r, .inl (ct 1, 60000, .inl k_o0r124_5))] := hD
        exact endq_v hQ hx hb hr hlocks dX10_turnJump_127 (y_tl_4124_4, k_o0r124_5) ⟨hp124_6, (show x_tl_4.toInt + 1 ≤ y_tl_4124_4.toInt ∧ y_tl_4124_4.toInt ≤ x_tl_4.toInt + 7 by have q0 := hp124_7; omega), (show y_tl_4124_4.toInt = x_tl_4.toInt + ((d : Nat) : Int) by have q0 := r9_3.1; have q1 := r9_3.2; have q2 := hk0_3; have q3 := hk4_1; have q4 := hp124_7; omega)⟩ hP hD hS [1, 2, 3, 0] rfl (by decide) rfl (Nat.le_of_ble_eq_true rfl) (Nat.le_of_ble_eq_true rfl)
  · have t9_2 := (i_ne c9_1)
    refine lv_lload_n hx hb dX10_turnJump_12 rfl (lv_at hl 2 rfl) ?_
    refine go_i (k1 := 0) (n1 := 0) (wr := [(tl, .inr (10, [.ref tls, .ref o0, .ref p0, .int x_tl_3, .int x_tl_4])), (o0, .inr (5, [.ref o0r, .int x_o0_1])), (o0r, .inl (ct 1, 60000, .inl g_o0r)), (tls, .inl (ct 1, 4001, .inl g_tls))]) [] [0, 1, 2, 3] (rn_SN (As := [.long v0]) (rest := []) (c_X7_dOf l D ct v0  _) (cn_of (n := 1) hn mw_986 mw_7 mw_1305 mhX7_dOf ⟨(Nat.le_of_ble_eq_true rfl), (Nat.le_of_ble_eq_true rfl)⟩) hx hb hml hown hn hK hSK hZ hS mw_985 rfl hl.1 (Nat.le_of_ble_eq_true rfl) dX10_turnJump_13 ⟨(Nat.le_of_ble_eq_true rfl), (Nat.le_of_ble_eq_true rfl)⟩) hP hD hS hA rfl rfl (by decide) (by decide) (by decide) (Nat.le_of_ble_eq_true rfl) (Nat.le_of_ble_eq_true rfl) (fun r13_1 u13_2 H locs hp13_3 hP hD hS => ?_)
    obtain ⟨hp13_4, hp13_5⟩ := hp13_3
    have hp13_4 : rg r13_1 0 15 := hp13_4
    have hp13_5 : r13_1.toInt = (v0.toInt / 256) % 16 := hp13_5
    have hP : va_P D vwCl [(tl, .inr (10, [.ref tls, .ref o0, .ref p0, .int x_tl_3, .int x_tl_4])), (o0, .inr (5, [.ref o0r, .int x_o0_1])), (o0r, .inl (ct 1, 60000, .inl g_o0r)), (tls, .inl (ct 1, 4001, .inl g_tls))] _ := hP
    have hD : va_D A [(tl, .inr (10, [.ref tls, .ref o0, .ref p0, .int x_tl_3, .int x_tl_4])), (o0, .inr (5, [.ref o0r, .int x_o0_1])), (o0r, .inl (ct 1, 60000, .inl g_o0r)), (tls, .inl (ct 1, 4001, .inl g_tls))] := hD
    refine go_i (k1 := 0) (n1 := 0) (wr := [(tl, .inr (10, [.ref tls, .ref o0, .ref p0, .int x_tl_3, .int x_tl_4])), (o0, .inr (5, [.ref o0r, .int x_o0_1])), (o0r, .inl (ct 1, 60000, .inl g_o0r)), (tls, .inl (ct 1, 4001, .inl g_tls))]) [] [0, 1, 2, 3] (rn_S (As := [.int r13_1]) (rest := []) (c_X10_placeOf l D ct r13_1  _) (cb_of (n := 1) hn mw_1308 mw_10 mw_1306 mhX10_placeOf ⟨(Nat.le_of_ble_eq_true rfl), (Nat.le_of_ble_eq_true rfl)⟩) hx hb hml hown hn hK hSK hZ hS mw_1307 rfl hl.1 (Nat.le_of_ble_eq_true rfl) dX10_turnJump_16 ⟨(Nat.le_of_ble_eq_true rfl), (Nat.le_of_ble_eq_true rfl)⟩) hP hD hS hA rfl rfl (by decide) (by decide) (by decide) (Nat.le_of_ble_eq_true rfl) (Nat.le_of_ble_eq_true rfl) (fun r16_1 u16_2 H locs hp16_3 hP hD hS => ?_)
    have hP : va_P D vwCl [(tl, .inr (10, [.ref tls, .ref o0, .ref p0, .int x_tl_3, .int x_tl_4])), (o0, .inr (5, [.ref o0r, .int x_o0_1])), (o0r, .inl (ct 1, 60000, .inl g_o0r)), (tls, .inl (ct 1, 4001, .inl g_tls))] _ := hP
    have hD : va_D A [(tl, .inr (10, [.ref tls, .ref o0, .ref p0, .int x_tl_3, .int x_tl_4])), (o0, .inr (5, [.ref o0r, .int x_o0_1])), (o0r, .inl (ct 1, 60000, .inl g_o0r)), (tls, .inl (ct 1, 4001, .inl g_tls))] := hD
    refine lv_istore (lv' := [(5, .int r16_1), (4, .int r1_1), (0, .ref tl), (1, .long v0), (3, .int v1)]) hx hb dX10_turnJump_19 hl (by decide) rfl (fun ls hl => ?_)
    refine lv_aload_n hx hb dX10_turnJump_21 rfl (lv_at hl 2 rfl) ?_
    refine lv_lload_n hx hb dX10_turnJump_22 rfl (lv_at hl 3 rfl) ?_
    refine go_i (k1 := 0) (n1 := 0) (wr := [(tls, .inl (ct 1, 4001, .inl g_tls))]) [0, 1, 2] [3] (rn_V (As := [.long v0]) (rest := []) (c_X10_putSide_w l D ct cc kk tl v0 tls o0 p0 x_tl_3 x_tl_4 o0r x_o0_1 g_o0r h_x_tl_3 (rg_w h_x_tl_4 (by decide)) h_x_o0_1 (show cc.toInt = v0.toInt % 256 by have q0 := hp1_5; have q1 := hk4_1; omega) (show kk.toInt = v0.toInt / 4294967296 by have q0 := (rl_any v0).1; have q1 := (rl_any v0).2; have q2 := (rg_any kk).1; have q3 := (rg_any kk).2; have q4 := (rg_any cc).1; have q5 := (rg_any cc).2; have q6 := hp1_4.1; have q7 := hp1_4.2; have q8 := hp13_4.1; have q9 := hp13_4.2; have q10 := (show rg (5 : Int32) 5 5 from rg_l (by decide)).1; have q11 := (show rg (5 : Int32) 5 5 from rg_l (by decide)).2; have q12 := hq0; have q13 := hq1; have q14 := hk0_2; have q15 := hk0_3; have q16 := hk0_4; have q17 := hk0_5; have q18 := hk0_6; have q19 := hk0_7; have q20 := hk0_8; have q21 := hk0_9; have q22 := hk0_10; have q23 := hk0_11; have q24 := hk0_12; have q25 := hk0_13; have q26 := hk0_14; have q27 := hk0_15; have q28 := hp1_5; have q29 := hk4_1; have q30 := t9_2; have q31 := hp13_5; have q32 := (show (5 : Int32).toInt = 5 from by decide); omega) _) (cb_of (n := 1) hn mw_1333 mw_10 mw_1330 mhX10_putSide ⟨(Nat.le_of_ble_eq_true rfl), (Nat.le_of_ble_eq_true rfl)⟩) hx hb hml hown hn hK hSK hZ hS mw_1332 mw_s152 (ci := 10) (q0 := 0) rfl rfl rfl rfl hl.1 (Nat.le_of_ble_eq_true rfl) dX10_turnJump_23 ⟨(Nat.le_of_ble_eq_true rfl), (Nat.le_of_ble_eq_true rfl)⟩) hP hD hS hA rfl rfl (by decide) (by decide) (by decide) (Nat.le_of_ble_eq_true rfl) (Nat.le_of_ble_eq_true rfl) (fun r23_1 u23_2 H locs hp23_3 hP hD hS => ?_)
    obtain ⟨y_tl_423_4, k_o0r23_5⟩ := u23_2
    obtain ⟨hp23_6, hp23_7, hp23_8, hp23_9, hp23_10⟩ := hp23_3
    have hp23_6 : rg y_tl_423_4 0 1000001 := hp23_6
    have hp23_7 : x_tl_4.toInt + 0 ≤ y_tl_423_4.toInt ∧ y_tl_423_4.toInt ≤ x_tl_4.toInt + 2 := hp23_7
    have hp23_8 : (cc.toInt / 8) % 2 = 1 → y_tl_423_4.toInt = x_tl_4.toInt := hp23_8
    have hp23_9 : (cc.toInt / 8) % 2 = 0 ∧ -2048 ≤ kk.toInt ∧ kk.toInt ≤ 2047 → y_tl_423_4.toInt = x_tl_4.toInt + 1 := hp23_9
    have hp23_10 : (cc.toInt / 8) % 2 = 0 ∧ (kk.toInt < -2048 ∨ 2047 < kk.toInt) → y_tl_423_4.toInt = x_tl_4.toInt + 2 := hp23_10
    have hP : va_P D vwCl [(tls, .inl (ct 1, 4001, .inl g_tls)), (tl, .inr (10, [.ref tls, .ref o0, .ref p0, .int x_tl_3, .int y_tl_423_4])), (o0, .inr (5, [.ref o0r, .int x_o0_1])), (o0r, .inl (ct 1, 60000, .inl k_o0r23_5))] _ := hP
    have hD : va_D A [(tls, .inl (ct 1, 4001, .inl g_tls)), (tl, .inr (10, [.ref tls, .ref o0, .ref p0, .int x_tl_3, .int y_tl_423_4])), (o0, .inr (5, [.ref o0r, .int x_o0_1])), (o0r, .inl (ct 1, 60000, .inl k_o0r23_5))] := hD
    refine lv_istore (lv' := [(6, .int r23_1), (5, .int r16_1), (4, .int r1_1), (0, .ref tl), (1, .long v0), (3, .int v1)]) hx hb dX10_turnJump_26 hl (by decide) rfl (fun ls hl => ?_)
    refine lv_iload hx hb dX10_turnJump_28 (lv_at hl 2 rfl) ?_
    refine go_i (k1 := 0) (n1 := 0) (wr := [(tls, .inl (ct 1, 4001, .inl g_tls)), (tl, .inr (10, [.ref tls, .ref o0, .ref p0, .int x_tl_3, .int y_tl_423_4])), (o0, .inr (5, [.ref o0r, .int x_o0_1])), (o0r, .inl (ct 1, 60000, .inl k_o0r23_5))]) [] [0, 1, 2, 3] (rn_SN (As := [.int r1_1]) (rest := []) (c_X7_isWide_w l D ct r1_1 hp1_4 _) (cn_of (n := 1) hn mw_1062 mw_7 mw_1309 mhX7_isWide ⟨(Nat.le_of_ble_eq_true rfl), (Nat.le_of_ble_eq_true rfl)⟩) hx hb hml hown hn hK hSK hZ hS mw_1061 rfl hl.1 (Nat.le_of_ble_eq_true rfl) dX10_turnJump_30 ⟨(Nat.le_of_ble_eq_true rfl), (Nat.le_of_ble_eq_true rfl)⟩) hP hD hS hA rfl rfl (by decide) (by decide) (by decide) (Nat.le_of_ble_eq_true rfl) (Nat.le_of_ble_eq_true rfl) (fun r30_1 u30_2 H locs hp30_3 hP hD hS => ?_)
    obtain ⟨hp30_4, hp30_5, hp30_6⟩ := hp30_3
    have hp30_4 : rg r30_1 0 1 := hp30_4
    have hp30_5 : r30_1.toInt = 1 → r1_1.toInt % 8 = 7 ∨ r1_1.toInt % 8 = 5 := hp30_5
    have hp30_6 : r30_1.toInt = 0 → ¬ (r1_1.toInt % 8 = 7 ∨ r1_1.toInt % 8 = 5) := hp30_6
    have hP : va_P D vwCl [(tls, .inl (ct 1, 4001, .inl g_tls)), (tl, .inr (10, [.ref tls, .ref o0, .ref p0, .int x_tl_3, .int y_tl_423_4])), (o0, .inr (5, [.ref o0r, .int x_o0_1])), (o0r, .inl (ct 1, 60000, .inl k_o0r23_5))] _ := hP
    have hD : va_D A [(tls, .inl (ct 1, 4001, .inl g_tls)), (tl, .inr (10, [.ref tls, .ref o0, .ref p0, .int x_tl_3, .int y_tl_423_4])), (o0, .inr (5, [.ref o0r, .int x_o0_1])), (o0r, .inl (ct 1, 60000, .inl k_o0r23_5))] := hD
    refine lv_if_ne (tgt := 68) hx hb dX10_turnJump_33 (by decide) (fun c33_1 => ?_) (fun c33_1 => ?_)
    · have t33_2 := (i_ne c33_1)
      have r33_3 : rg r30_1 1 1 := rg_neAl t33_2 hp30_4 (show rg (0 : Int32) 0 0 from rg_l (by decide)) (by decide)
      refine lv_aload_n hx hb dX10_turnJump_68 rfl (lv_at hl 3 rfl) ?_
      refine lv_iload hx hb dX10_turnJump_69 (lv_at hl 2 rfl) ?_
      refine lv_iconst (v := 4) hx hb dX10_turnJump_71 (by decide) ?_
      refine lv_ishr hx hb dX10_turnJump_72 ?_
      refine lv_topi (fun z72_1 ez72_1 => ?_)
      have r72_2 : rg z72_1 0 15 := rg_shr (k := 4) ez72_1 (by decide) hp1_4 (by decide)
      refine lv_iload hx hb dX10_turnJump_73 (lv_at hl 1 rfl) ?_
      refine lv_iload hx hb dX10_turnJump_75 (lv_at hl 0 rfl) ?_
      refine go_v (k1 := 0) (n1 := 0) (wr := [(tls, .inl (ct 1, 4001, .inl g_tls))]) [1, 2, 3] [0] (rn_V (As := [.int z72_1, .int r16_1, .int r23_1]) (rest := []) (c_X10_putPassing_w l D ct tl z72_1 r16_1 r23_1 tls o0 p0 x_tl_3 y_tl_423_4 o0r x_o0_1 k_o0r23_5 h_x_tl_3 (rg_of (show 0 ≤ y_tl_423_4.toInt ∧ y_tl_423_4.toInt ≤ 999900 by have q0 := h_x_tl_4.1; have q1 := h_x_tl_4.2; have q2 := hp23_7; omega)) h_x_o0_1 _) (cb_of (n := 3) hn mw_1367 mw_10 mw_1364 mhX10_putPassing ⟨(Nat.le_of_ble_eq_true rfl), (Nat.le_of_ble_eq_true rfl)⟩) hx hb hml hown hn hK hSK hZ hS mw_1366 mw_s159 (ci := 10) (q0 := 0) rfl rfl rfl rfl hl.1 (Nat.le_of_ble_eq_true rfl) dX10_turnJump_77 ⟨(Nat.le_of_ble_eq_true rfl), (Nat.le_of_ble_eq_true rfl)⟩) hP hD hS hA rfl rfl (by decide) (by decide) (by decide) (Nat.le_of_ble_eq_true rfl) (Nat.le_of_ble_eq_true rfl) (fun u77_2 H locs hp77_3 hP hD hS => ?_)
      obtain ⟨y_tl_477_4, k_o0r77_5⟩ := u77_2
      obtain ⟨hp77_6, hp77_7, hp77_8, hp77_9⟩ := hp77_3
      have hp77_6 : rg y_tl_477_4 1 1000001 := hp77_6
      have hp77_7 : y_tl_423_4.toInt + 1 ≤ y_tl_477_4.toInt ∧ y_tl_477_4.toInt ≤ y_tl_423_4.toInt + 2 := hp77_7
      have hp77_8 : z72_1.toInt = 4 → y_tl_477_4.toInt = y_tl_423_4.toInt + 2 := hp77_8
      have hp77_9 : z72_1.toInt ≠ 4 → y_tl_477_4.toInt = y_tl_423_4.toInt + 1 := hp77_9
      have hP : va_P D vwCl [(tls, .inl (ct 1, 4001, .inl g_tls)), (tl, .inr (10, [.ref tls, .ref o0, .ref p0, .int x_tl_3, .int y_tl_477_4])), (o0, .inr (5, [.ref o0r, .int x_o0_1])), (o0r, .inl (ct 1, 60000, .inl k_o0r77_5))] _ := hP
      have hD : va_D A [(tls, .inl (ct 1, 4001, .inl g_tls)), (tl, .inr (10, [.ref tls, .ref o0, .ref p0, .int x_tl_3, .int y_tl_477_4])), (o0, .inr (5, [.ref o0r, .int x_o0_1])), (o0r, .inl (ct 1, 60000, .inl k_o0r77_5))] := hD
      refine lv_iload_n hx hb dX10_turnJump_80 rfl (lv_at hl 5 rfl) ?_
      refine lv_iconst (v := 1) hx hb dX10_turnJump_81 (by decide) ?_
      refine lv_iadd hx hb dX10_turnJump_82 ?_
      refine lv_topi (fun z82_1 ez82_1 => ?_)
      refine lv_lload_n hx hb dX10_turnJump_83 rfl (lv_at hl 4 rfl) ?_
      refine go_i (k1 := 0) (n1 := 0) (wr := [(tls, .inl (ct 1, 4001, .inl g_tls)), (tl, .inr (10, [.ref tls, .ref o0, .ref p0, .int x_tl_3, .int y_tl_477_4])), (o0, .inr (5, [.ref o0r, .int x_o0_1])), (o0r, .inl (ct 1, 60000, .inl k_o0r77_5))]) [] [0, 1, 2, 3] (rn_SN (As := [.long v0]) (rest := [.int z82_1]) (c_X7_offOf_w l D ct v0  _) (cn_of (n := 1) hn mw_992 mw_7 mw_1368 mhX7_offOf ⟨(Nat.le_of_ble_eq_true rfl), (Nat.le_of_ble_eq_true rfl)⟩) hx hb hml hown hn hK hSK hZ hS mw_991 rfl hl.1 (Nat.le_of_ble_eq_true rfl) dX10_turnJump_84 ⟨(Nat.le_of_ble_eq_true rfl), (Nat.le_of_ble_eq_true rfl)⟩) hP hD hS hA rfl rfl (by decide) (by decide) (by decide) (Nat.le_of_ble_eq_true rfl) (Nat.le_of_ble_eq_true rfl) (fun r84_1 u84_2 H locs hp84_3 hP hD hS => ?_)
      obtain ⟨hp84_4, hp84_5⟩ := hp84_3
      have hp84_4 : rg r84_1 (-32768) 32767 := hp84_4
      have hp84_5 : r84_1.toInt = (v0.toInt / 65536 + 32768) % 65536 - 32768 := hp84_5
      have hP : va_P D vwCl [(tls, .inl (ct 1, 4001, .inl g_tls)), (tl, .inr (10, [.ref tls, .ref o0, .ref p0, .int x_tl_3, .int y_tl_477_4])), (o0, .inr (5, [.ref o0r, .int x_o0_1])), (o0r, .inl (ct 1, 60000, .inl k_o0r77_5))] _ := hP
      have hD : va_D A [(tls, .inl (ct 1, 4001, .inl g_tls)), (tl, .inr (10, [.ref tls, .ref o0, .ref p0, .int x_tl_3, .int y_tl_477_4])), (o0, .inr (5, [.ref o0r, .int x_o0_1])), (o0r, .inl (ct 1, 60000, .inl k_o0r77_5))] := hD
      refine lv_iadd hx hb dX10_turnJump_87 ?_
      refine lv_topi (fun z87_1 ez87_1 => ?_)
      refine lv_istore (lv' := [(5, .int z87_1), (6, .int r23_1), (4, .int r1_1), (0, .ref tl), (1, .long v0), (3, .int v1)]) hx hb dX10_turnJump_88 hl (by decide) rfl (fun ls hl => ?_)
      refine lv_aload_n hx hb dX10_turnJump_90 rfl (lv_at hl 3 rfl) ?_
      refine lv_iload hx hb dX10_turnJump_91 (lv_at hl 0 rfl) ?_
      refine lv_if_lt (tgt := 106) hx hb dX10_turnJump_93 (by decide) (fun c93_1 => ?_) (fun c93_1 => ?_)
      · have t93_2 := (i_lt c93_1)
        have r93_3 : rg z87_1 (-2147483648) (-1) := rg_ltA t93_2 (rg_any z87_1) (show rg (0 : Int32) 0 0 from rg_l (by decide)) (by decide)
        refine lv_iconst (v := 0) hx hb dX10_turnJump_106 (by decide) ?_
        refine lv_goto (tgt := 124) hx hb dX10_turnJump_107 (by decide) ?_
        refine go_v (k1 := 0) (n1 := 0) (wr := [(tls, .inl (ct 1, 4001, .inl g_tls))]) [1, 2, 3] [0] (rn_V (As := [.int 0]) (rest := []) (c_X10_putGoing l D ct tl (0 : Int32) tls o0 p0 x_tl_3 y_tl_477_4 o0r x_o0_1 k_o0r77_5 h_x_tl_3 (rg_of (show 0 ≤ y_tl_477_4.toInt ∧ y_tl_477_4.toInt ≤ 999990 by have q0 := h_x_tl_4.1; have q1 := h_x_tl_4.2; have q2 := hp23_7; have q3 := hp77_7; omega)) h_x_o0_1 _) (cb_of (n := 1) hn mw_1349 mw_10 mw_1346 mhX10_putGoing ⟨(Nat.le_of_ble_eq_true rfl), (Nat.le_of_ble_eq_true rfl)⟩) hx hb hml hown hn hK hSK hZ hS mw_1348 mw_s156 (ci := 10) (q0 := 0) rfl rfl rfl rfl hl.1 (Nat.le_of_ble_eq_true rfl) dX10_turnJump_124 ⟨(Nat.le_of_ble_eq_true rfl), (Nat.le_of_ble_eq_true rfl)⟩) hP hD hS hA rfl rfl (by decide) (by decide) (by decide) (Nat.le_of_ble_eq_true rfl) (Nat.le_of_ble_eq_true rfl) (fun u124_2 H locs hp124_3 hP hD hS => ?_)
        obtain ⟨y_tl_4124_4, k_o0r124_5⟩ := u124_2
        obtain ⟨hp124_6, hp124_7⟩ := hp124_3
        have hp124_6 : rg y_tl_4124_4 1 1000001 := hp124_6
        have hp124_7 : y_tl_4124_4.toInt = y_tl_477_4.toInt + 1 := hp124_7
        have hP : va_P D vwCl [(tls, .inl (ct 1, 4001, .inl g_tls)), (tl, .inr (10, [.ref tls, .ref o0, .ref p0, .int x_tl_3, .int y_tl_4124_4])), (o0, .inr (5, [.ref o0r, .int x_o0_1])), (o0r, .inl (ct 1, 60000, .inl k_o0r124_5))] _ := hP
        have hD : va_D A [(tls, .inl (ct 1, 4001, .inl g_tls)), (tl, .inr (10, [.ref tls, .ref o0, .ref p0, .int x_tl_3, .int y_tl_4124_4])), (o0, .inr (5, [.ref o0r, .int x_o0_1])), (o0r, .inl (ct 1, 60000, .inl k_o0r124_5))] := hD
        exact endq_v hQ hx hb hr hlocks dX10_turnJump_127 (y_tl_4124_4, k_o0r124_5) ⟨hp124_6, (show x_tl_4.toInt + 1 ≤ y_tl_4124_4.toInt ∧ y_tl_4124_4.toInt ≤ x_tl_4.toInt + 7 by have q0 := hp23_7; have q1 := hp77_7; have q2 := hp124_7; omega), (show y_tl_4124_4.toInt = x_tl_4.toInt + ((d : Nat) : Int) by have q0 := (eq_shr (c := 16) (k := 4) ez72_1 (by decide) (by decide)); have q1 := r33_3.1; have q2 := r33_3.2; have q3 := hk0_2; have q4 := hk0_4; have q5 := hk0_5; have q6 := hk0_6; have q7 := hk0_7; have q8 := hk0_8; have q9 := hk0_9; have q10 := hk4_1; have q11 := t9_2; have q12 := hp23_7; have q13 := hp23_8; have q14 := hp23_9; have q15 := hp23_10; have q16 := hp30_5; have q17 := hp77_7; have q18 := hp77_8; have q19 := hp77_9; have q20 := hp124_7; have q21 := (show (5 : Int32).toInt = 5 from by decide); omega)⟩ hP hD hS [1, 2, 3, 0] rfl (by decide) rfl (Nat.le_of_ble_eq_true rfl) (Nat.le_of_ble_eq_true rfl)
      · have t93_2 := (i_nlt c93_1)
        have r93_3 : rg z87_1 0 2147483647 := rg_leB t93_2 (show rg (0 : Int32) 0 0 from rg_l (by decide)) (rg_any z87_1) (by decide)
        refine lv_iload hx hb dX10_turnJump_96 (lv_at hl 0 rfl) ?_
        refine lv_aload_n hx hb dX10_turnJump_98 rfl (lv_at hl 3 rfl) ?_
        refine va_get (D := D) (ci := 10) (v := .ref tls) (C := RX10) (T := TX10) (N := 5) hx hb (htX10 hn) (fun _ h => h) hown hK hP 1 rfl rfl 0 (by decide) (hn.get mw_288 rfl) (fun _ h9 => h9) rfl dX10_turnJump_99 ?_
        refine va_alen (v := 4001) hx hb hK hP 0 1 rfl rfl (show Int32.ofNat 4001 = 4001 by decide) dX10_turnJump_102 ?_
        refine lv_icmp_lt (tgt := 110) hx hb dX10_turnJump_103 (by decide) (fun c103_1 => ?_) (fun c103_1 => ?_)
        · have t103_2 := (i_lt c103_1)
          have r103_3 : rg z87_1 0 4000 := rg_ltA t103_2 r93_3 (show rg (4001 : Int32) 4001 4001 from rg_l (by decide)) (by decide)
          refine lv_iconst (v := 4) hx hb dX10_turnJump_110 (by decide) ?_
          refine lv_aload_n hx hb dX10_turnJump_111 rfl (lv_at hl 3 rfl) ?_
          refine va_get (D := D) (ci := 10) (v := .ref tls) (C := RX10) (T := TX10) (N := 5) hx hb (htX10 hn) (fun _ h => h) hown hK hP 1 rfl rfl 0 (by decide) (hn.get mw_288 rfl) (fun _ h9 => h9) rfl dX10_turnJump_112 ?_
          refine lv_iload hx hb dX10_turnJump_115 (lv_at hl 0 rfl) ?_
          have hi117_1 : vp_in z87_1 4001 := (in_rg r103_3 (by decide))
          refine va_iald hx hb hK hP 0 1 rfl rfl hi117_1 dX10_turnJump_117 ?_
          refine lv_topi (fun z117_2 ez117_2 => ?_)
          have r117_3 : rg z117_2 0 1073741824 := Rg_at h_g_tls hi117_1 ez117_2
          refine lv_aload_n hx hb dX10_turnJump_118 rfl (lv_at hl 3 rfl) ?_
          refine va_get (D := D) (ci := 10) (v := .int y_tl_477_4) (C := RX10) (T := TX10) (N := 5) hx hb (htX10 hn) (fun _ h => h) hown hK hP 1 rfl rfl 4 (by decide) (hn.get mw_292 rfl) (fun _ h9 => h9) rfl dX10_turnJump_119 ?_
          refine lv_isub hx hb dX10_turnJump_122 ?_
          refine lv_topi (fun z122_1 ez122_1 => ?_)
          have r122_2 : rg z122_1 (-1000001) 1073741823 := rg_sub ez122_1 r117_3 hp77_6 (by decide)
          refine lv_imul hx hb dX10_turnJump_123 ?_
          refine lv_topi (fun z123_1 ez123_1 => ?_)
          refine go_v (k1 := 0) (n1 := 0) (wr := [(tls, .inl (ct 1, 4001, .inl g_tls))]) [1, 2, 3] [0] (rn_V (As := [.int z123_1]) (rest := []) (c_X10_putGoing l D ct tl z123_1 tls o0 p0 x_tl_3 y_tl_477_4 o0r x_o0_1 k_o0r77_5 h_x_tl_3 (rg_of (show 0 ≤ y_tl_477_4.toInt ∧ y_tl_477_4.toInt ≤ 999990 by have q0 := h_x_tl_4.1; have q1 := h_x_tl_4.2; have q2 := hp23_7; have q3 := hp77_7; omega)) h_x_o0_1 _) (cb_of (n := 1) hn mw_1349 mw_10 mw_1346 mhX10_putGoing ⟨(Nat.le_of_ble_eq_true rfl), (Nat.le_of_ble_eq_true rfl)⟩) hx hb hml hown hn hK hSK hZ hS mw_1348 mw_s156 (ci := 10) (q0 := 0) rfl rfl rfl rfl hl.1 (Nat.le_of_ble_eq_true rfl) dX10_turnJump_124 ⟨(Nat.le_of_ble_eq_true rfl), (Nat.le_of_ble_eq_true rfl)⟩) hP hD hS hA rfl rfl (by decide) (by decide) (by decide) (Nat.le_of_ble_eq_true rfl) (Nat.le_of_ble_eq_true rfl) (fun u124_2 H locs hp124_3 hP hD hS => ?_)
          obtain ⟨y_tl_4124_4, k_o0r124_5⟩ := u124_2
          obtain ⟨hp124_6, hp124_7⟩ := hp124_3
          have hp124_6 : rg y_tl_4124_4 1 1000001 := hp124_6
          have hp124_7 : y_tl_4124_4.toInt = y_tl_477_4.toInt + 1 := hp124_7
          have hP : va_P D vwCl [(tls, .inl (ct 1, 4001, .inl g_tls)), (tl, .inr (10, [.ref tls, .ref o0, .ref p0, .int x_tl_3, .int y_tl_4124_4])), (o0, .inr (5, [.ref o0r, .int x_o0_1])), (o0r, .inl (ct 1, 60000, .inl k_o0r124_5))] _ := hP
          have hD : va_D A [(tls, .inl (ct 1, 4001, .inl g_tls)), (tl, .inr (10, [.ref tls, .ref o0, .ref p0, .int x_tl_3, .int y_tl_4124_4])), (o0, .inr (5, [.ref o0r, .int x_o0_1])), (o0r, .inl (ct 1, 60000, .inl k_o0r124_5))] := hD
          exact endq_v hQ hx hb hr hlocks dX10_turnJump_127 (y_tl_4124_4, k_o0r124_5) ⟨hp124_6, (show x_tl_4.toInt + 1 ≤ y_tl_4124_4.toInt ∧ y_tl_4124_4.toInt ≤ x_tl_4.toInt + 7 by have q0 := hp23_7; have q1 := hp77_7; have q2 := hp124_7; omega), (show y_tl_4124_4.toInt = x_tl_4.toInt + ((d : Nat) : Int) by have q0 := (eq_shr (c := 16) (k := 4) ez72_1 (by decide) (by decide)); have q1 := r33_3.1; have q2 := r33_3.2; have q3 := hk0_2; have q4 := hk0_4; have q5 := hk0_5; have q6 := hk0_6; have q7 := hk0_7; have q8 := hk0_8; have q9 := hk0_9; have q10 := hk4_1; have q11 := t9_2; have q12 := hp23_7; have q13 := hp23_8; have q14 := hp23_9; have q15 := hp23_10; have q16 := hp30_5; have q17 := hp77_7; have q18 := hp77_8; have q19 := hp77_9; have q20 := hp124_7; have q21 := (show (5 : Int32).toInt = 5 from by decide); omega)⟩ hP hD hS [1, 2, 3, 0] rfl (by decide) rfl (Nat.le_of_ble_eq_true rfl) (Nat.le_of_ble_eq_true rfl)
        · have t103_2 := (i_nlt c103_1)
          have r103_3 : rg z87_1 4001 2147483647 := rg_leB t103_2 (show rg (4001 : Int32) 4001 4001 from rg_l (by decide)) r93_3 (by decide)
          refine lv_iconst (v := 0) hx hb dX10_turnJump_106 (by decide) ?_
          refine lv_goto (tgt := 124) hx hb dX10_turnJump_107 (by decide) ?_
          refine go_v (k1 := 0) (n1 := 0) (wr := [(tls, .inl (ct 1, 4001, .inl g_tls))]) [1, 2, 3] [0] (rn_V (As := [.int 0]) (rest := []) (c_X10_putGoing l D ct tl (0 : Int32) tls o0 p0 x_tl_3 y_tl_477_4 o0r x_o0_1 k_o0r77_5 h_x_tl_3 (rg_of (show 0 ≤ y_tl_477_4.toInt ∧ y_tl_477_4.toInt ≤ 999990 by have q0 := h_x_tl_4.1; have q1 := h_x_tl_4.2; have q2 := hp23_7; have q3 := hp77_7; omega)) h_x_o0_1 _) (cb_of (n := 1) hn mw_1349 mw_10 mw_1346 mhX10_putGoing ⟨(Nat.le_of_ble_eq_true rfl), (Nat.le_of_ble_eq_true rfl)⟩) hx hb hml hown hn hK hSK hZ hS mw_1348 mw_s156 (ci := 10) (q0 := 0) rfl rfl rfl rfl hl.1 (Nat.le_of_ble_eq_true rfl) dX10_turnJump_124 ⟨(Nat.le_of_ble_eq_true rfl), (Nat.le_of_ble_eq_true rfl)⟩) hP hD hS hA rfl rfl (by decide) (by decide) (by decide) (Nat.le_of_ble_eq_true rfl) (Nat.le_of_ble_eq_true rfl) (fun u124_2 H locs hp124_3 hP hD hS => ?_)
          obtain ⟨y_tl_4124_4, k_o0r124_5⟩ := u124_2
          obtain ⟨hp124_6, hp124_7⟩ := hp124_3
          have hp124_6 : rg y_tl_4124_4 1 1000001 := hp124_6
          have hp124_7 : y_tl_4124_4.toInt = y_tl_477_4.toInt + 1 := hp124_7
          have hP : va_P D vwCl [(tls, .inl (ct 1, 4001, .inl g_tls)), (tl, .inr (10, [.ref tls, .ref o0, .ref p0, .int x_tl_3, .int y_tl_4124_4])), (o0, .inr (5, [.ref o0r, .int x_o0_1])), (o0r, .inl (ct 1, 60000, .inl k_o0r124_5))] _ := hP
          have hD : va_D A [(tls, .inl (ct 1, 4001, .inl g_tls)), (tl, .inr (10, [.ref tls, .ref o0, .ref p0, .int x_tl_3, .int y_tl_4124_4])), (o0, .inr (5, [.ref o0r, .int x_o0_1])), (o0r, .inl (ct 1, 60000, .inl k_o0r124_5))] := hD
          exact endq_v hQ hx hb hr hlocks dX10_turnJump_127 (y_tl_4124_4, k_o0r124_5) ⟨hp124_6, (show x_tl_4.toInt + 1 ≤ y_tl_4124_4.toInt ∧ y_tl_4124_4.toInt ≤ x_tl_4.toInt + 7 by have q0 := hp23_7; have q1 := hp77_7; have q2 := hp124_7; omega), (show y_tl_4124_4.toInt = x_tl_4.toInt + ((d : Nat) : Int) by have q0 := (eq_shr (c := 16) (k := 4) ez72_1 (by decide) (by decide)); have q1 := r33_3.1; have q2 := r33_3.2; have q3 := hk0_2; have q4 := hk0_4; have q5 := hk0_5; have q6 := hk0_6; have q7 := hk0_7; have q8 := hk0_8; have q9 := hk0_9; have q10 := hk4_1; have q11 := t9_2; have q12 := hp23_7; have q13 := hp23_8; have q14 := hp23_9; have q15 := hp23_10; have q16 := hp30_5; have q17 := hp77_7; have q18 := hp77_8; have q19 := hp77_9; have q20 := hp124_7; have q21 := (show (5 : Int32).toInt = 5 from by decide); omega)⟩ hP hD hS [1, 2, 3, 0] rfl (by decide) rfl (Nat.le_of_ble_eq_true rfl) (Nat.le_of_ble_eq_true rfl)
    · have t33_2 := (i_eq c33_1)
      have r33_3 : rg r30_1 0 0 := rg_eqA t33_2 hp30_4 (show rg (0 : Int32) 0 0 from rg_l (by decide)) (by decide)
      refine lv_aload_n hx hb dX10_turnJump_36 rfl (lv_at hl 3 rfl) ?_
      refine lv_bipush (v := 27) hx hb dX10_turnJump_37 (by decide) ?_
      refine lv_iconst (v := 0) hx hb dX10_turnJump_39 (by decide) ?_
      refine lv_bipush (v := 6) hx hb dX10_turnJump_40 (by decide) ?_
      refine lv_iload hx hb dX10_turnJump_42 (lv_at hl 1 rfl) ?_
      refine lv_iconst (v := 0) hx hb dX10_turnJump_44 (by decide) ?_
      refine go_v (k1 := 0) (n1 := 0) (wr := [(tls, .inl (ct 1, 4001, .inl g_tls))]) [1, 2, 3] [0] (rn_V (As := [.int 27, .int 0, .int 6, .int r16_1, .int 0]) (rest := []) (c_X10_putImm l D ct tl (27 : Int32) (0 : Int32) (6 : Int32) r16_1 (0 : Int32) tls o0 p0 x_tl_3 y_tl_423_4 o0r x_o0_1 k_o0r23_5 h_x_tl_3 (rg_of (show 0 ≤ y_tl_423_4.toInt ∧ y_tl_423_4.toInt ≤ 999990 by have q0 := h_x_tl_4.1; have q1 := h_x_tl_4.2; have q2 := hp23_7; omega)) h_x_o0_1 _) (cb_of (n := 5) hn mw_1341 mw_10 mw_1338 mhX10_putImm ⟨(Nat.le_of_ble_eq_true rfl), (Nat.le_of_ble_eq_true rfl)⟩) hx hb hml hown hn hK hSK hZ hS mw_1340 mw_s154 (ci := 10) (q0 := 0) rfl rfl rfl rfl hl.1 (Nat.le_of_ble_eq_true rfl) dX10_turnJump_45 ⟨(Nat.le_of_ble_eq_true rfl), (Nat.le_of_ble_eq_true rfl)⟩) hP hD hS hA rfl rfl (by decide) (by decide) (by decide) (Nat.le_of_ble_eq_true rfl) (Nat.le_of_ble_eq_true rfl) (fun u45_2 H locs hp45_3 hP hD hS => ?_)
      obtain ⟨y_tl_445_4, k_o0r45_5⟩ := u45_2
      obtain ⟨hp45_6, hp45_7⟩ := hp45_3
      have hp45_6 : rg y_tl_445_4 1 1000001 := hp45_6
      have hp45_7 : y_tl_445_4.toInt = y_tl_423_4.toInt + 1 := hp45_7
      have hP : va_P D vwCl [(tls, .inl (ct 1, 4001, .inl g_tls)), (tl, .inr (10, [.ref tls, .ref o0, .ref p0, .int x_tl_3, .int y_tl_445_4])), (o0, .inr (5, [.ref o0r, .int x_o0_1])), (o0r, .inl (ct 1, 60000, .inl k_o0r45_5))] _ := hP
      have hD : va_D A [(tls, .inl (ct 1, 4001, .inl g_tls)), (tl, .inr (10, [.ref tls, .ref o0, .ref p0, .int x_tl_3, .int y_tl_445_4])), (o0, .inr (5, [.ref o0r, .int x_o0_1])), (o0r, .inl (ct 1, 60000, .inl k_o0r45_5))] := hD
      refine lv_aload_n hx hb dX10_turnJump_48 rfl (lv_at hl 3 rfl) ?_
      refine lv_bipush (v := 27) hx hb dX10_turnJump_49 (by decide) ?_
      refine lv_iconst (v := 0) hx hb dX10_turnJump_51 (by decide) ?_
      refine lv_bipush (v := 7) hx hb dX10_turnJump_52 (by decide) ?_
      refine lv_iload hx hb dX10_turnJump_54 (lv_at hl 0 rfl) ?_
      refine lv_iconst (v := 0) hx hb dX10_turnJump_56 (by decide) ?_
      refine go_v (k1 := 0) (n1 := 0) (wr := [(tls, .inl (ct 1, 4001, .inl g_tls))]) [1, 2, 3] [0] (rn_V (As := [.int 27, .int 0, .int 7, .int r23_1, .int 0]) (rest := []) (c_X10_putImm l D ct tl (27 : Int32) (0 : Int32) (7 : Int32) r23_1 (0 : Int32) tls o0 p0 x_tl_3 y_tl_445_4 o0r x_o0_1 k_o0r45_5 h_x_tl_3 (rg_of (show 0 ≤ y_tl_445_4.toInt ∧ y_tl_445_4.toInt ≤ 999990 by have q0 := h_x_tl_4.1; have q1 := h_x_tl_4.2; have q2 := hp23_7; have q3 := hp45_7; omega)) h_x_o0_1 _) (cb_of (n := 5) hn mw_1341 mw_10 mw_1338 mhX10_putImm ⟨(Nat.le_of_ble_eq_true rfl), (Nat.le_of_ble_eq_true rfl)⟩) hx hb hml hown hn hK hSK hZ hS mw_1340 mw_s154 (ci := 10) (q0 := 0) rfl rfl rfl rfl hl.1 (Nat.le_of_ble_eq_true rfl) dX10_turnJump_57 ⟨(Nat.le_of_ble_eq_true rfl), (Nat.le_of_ble_eq_true rfl)⟩) hP hD hS hA rfl rfl (by decide) (by decide) (by decide) (Nat.le_of_ble_eq_true rfl) (Nat.le_of_ble_eq_true rfl) (fun u57_2 H locs hp57_3 hP hD hS => ?_)
      obtain ⟨y_tl_457_4, k_o0r57_5⟩ := u57_2
      obtain ⟨hp57_6, hp57_7⟩ := hp57_3
      have hp57_6 : rg y_tl_457_4 1 1000001 := hp57_6
      have hp57_7 : y_tl_457_4.toInt = y_tl_445_4.toInt + 1 := hp57_7
      have hP : va_P D vwCl [(tls, .inl (ct 1, 4001, .inl g_tls)), (tl, .inr (10, [.ref tls, .ref o0, .ref p0, .int x_tl_3, .int y_tl_457_4])), (o0, .inr (5, [.ref o0r, .int x_o0_1])), (o0r, .inl (ct 1, 60000, .inl k_o0r57_5))] _ := hP
      have hD : va_D A [(tls, .inl (ct 1, 4001, .inl g_tls)), (tl, .inr (10, [.ref tls, .ref o0, .ref p0, .int x_tl_3, .int y_tl_457_4])), (o0, .inr (5, [.ref o0r, .int x_o0_1])), (o0r, .inl (ct 1, 60000, .inl k_o0r57_5))] := hD
      refine lv_bipush (v := 6) hx hb dX10_turnJump_60 (by decide) ?_
      refine lv_istore (lv' := [(5, .int 6), (6, .int r23_1), (4, .int r1_1), (0, .ref tl), (1, .long v0), (3, .int v1)]) hx hb dX10_turnJump_62 hl (by decide) rfl (fun ls hl => ?_)
      refine lv_bipush (v := 7) hx hb dX10_turnJump_64 (by decide) ?_
      refine lv_istore (lv' := [(6, .int 7), (5, .int 6), (4, .int r1_1), (0, .ref tl), (1, .long v0), (3, .int v1)]) hx hb dX10_turnJump_66 hl (by decide) rfl (fun ls hl => ?_)
      refine lv_aload_n hx hb dX10_turnJump_68 rfl (lv_at hl 3 rfl) ?_
      refine lv_iload hx hb dX10_turnJump_69 (lv_at hl 2 rfl) ?_
      refine lv_iconst (v := 4) hx hb dX10_turnJump_71 (by decide) ?_
      refine lv_ishr hx hb dX10_turnJump_72 ?_
      refine lv_topi (fun z72_1 ez72_1 => ?_)
      have r72_2 : rg z72_1 0 15 := rg_shr (k := 4) ez72_1 (by decide) hp1_4 (by decide)
      refine lv_iload hx hb dX10_turnJump_73 (lv_at hl 1 rfl) ?_
      refine lv_iload hx hb dX10_turnJump_75 (lv_at hl 0 rfl) ?_
      refine go_v (k1 := 0) (n1 := 0) (wr := [(tls, .inl (ct 1, 4001, .inl g_tls))]) [1, 2, 3] [0] (rn_V (As := [.int z72_1, .int 6, .int 7]) (rest := []) (c_X10_putPassing_w l D ct tl z72_1 (6 : Int32) (7 : Int32) tls o0 p0 x_tl_3 y_tl_457_4 o0r x_o0_1 k_o0r57_5 h_x_tl_3 (rg_of (show 0 ≤ y_tl_457_4.toInt ∧ y_tl_457_4.toInt ≤ 999900 by have q0 := h_x_tl_4.1; have q1 := h_x_tl_4.2; have q2 := hp23_7; have q3 := hp45_7; have q4 := hp57_7; omega)) h_x_o0_1 _) (cb_of (n := 3) hn mw_1367 mw_10 mw_1364 mhX10_putPassing ⟨(Nat.le_of_ble_eq_true rfl), (Nat.le_of_ble_eq_true rfl)⟩) hx hb hml hown hn hK hSK hZ hS mw_1366 mw_s159 (ci := 10) (q0 := 0) rfl rfl rfl rfl hl.1 (Nat.le_of_ble_eq_true rfl) dX10_turnJump_77 ⟨(Nat.le_of_ble_eq_true rfl), (Nat.le_of_ble_eq_true rfl)⟩) hP hD hS hA rfl rfl (by decide) (by decide) (by decide) (Nat.le_of_ble_eq_true rfl) (Nat.le_of_ble_eq_true rfl) (fun u77_2 H locs hp77_3 hP hD hS => ?_)
      obtain ⟨y_tl_477_4, k_o0r77_5⟩ := u77_2
      obtain ⟨hp77_6, hp77_7, hp77_8, hp77_9⟩ := hp77_3
      have hp77_6 : rg y_tl_477_4 1 1000001 := hp77_6
      have hp77_7 : y_tl_457_4.toInt + 1 ≤ y_tl_477_4.toInt ∧ y_tl_477_4.toInt ≤ y_tl_457_4.toInt + 2 := hp77_7
      have hp77_8 : z72_1.toInt = 4 → y_tl_477_4.toInt = y_tl_457_4.toInt + 2 := hp77_8
      have hp77_9 : z72_1.toInt ≠ 4 → y_tl_477_4.toInt = y_tl_457_4.toInt + 1 := hp77_9
      have hP : va_P D vwCl [(tls, .inl (ct 1, 4001, .inl g_tls)), (tl, .inr (10, [.ref tls, .ref o0, .ref p0, .int x_tl_3, .int y_tl_477_4])), (o0, .inr (5, [.ref o0r, .int x_o0_1])), (o0r, .inl (ct 1, 60000, .inl k_o0r77_5))] _ := hP
      have hD : va_D A [(tls, .inl (ct 1, 4001, .inl g_tls)), (tl, .inr (10, [.ref tls, .ref o0, .ref p0, .int x_tl_3, .int y_tl_477_4])), (o0, .inr (5, [.ref o0r, .int x_o0_1])), (o0r, .inl (ct 1, 60000, .inl k_o0r77_5))] := hD
      refine lv_iload_n hx hb dX10_turnJump_80 rfl (lv_at hl 5 rfl) ?_
      refine lv_iconst (v := 1) hx hb dX10_turnJump_81 (by decide) ?_
      refine lv_iadd hx hb dX10_turnJump_82 ?_
      refine lv_topi (fun z82_1 ez82_1 => ?_)
      refine lv_lload_n hx hb dX10_turnJump_83 rfl (lv_at hl 4 rfl) ?_
      refine go_i (k1 := 0) (n1 := 0) (wr := [(tls, .inl (ct 1, 4001, .inl g_tls)), (tl, .inr (10, [.ref tls, .ref o0, .ref p0, .int x_tl_3, .int y_tl_477_4])), (o0, .inr (5, [.ref o0r, .int x_o0_1])), (o0r, .inl (ct 1, 60000, .inl k_o0r77_5))]) [] [0, 1, 2, 3] (rn_SN (As := [.long v0]) (rest := [.int z82_1]) (c_X7_offOf_w l D ct v0  _) (cn_of (n := 1) hn mw_992 mw_7 mw_1368 mhX7_offOf ⟨(Nat.le_of_ble_eq_true rfl), (Nat.le_of_ble_eq_true rfl)⟩) hx hb hml hown hn hK hSK hZ hS mw_991 rfl hl.1 (Nat.le_of_ble_eq_true rfl) dX10_turnJump_84 ⟨(Nat.le_of_ble_eq_true rfl), (Nat.le_of_ble_eq_true rfl)⟩) hP hD hS hA rfl rfl (by decide) (by decide) (by decide) (Nat.le_of_ble_eq_true rfl) (Nat.le_of_ble_eq_true rfl) (fun r84_1 u84_2 H locs hp84_3 hP hD hS => ?_)
      obtain ⟨hp84_4, hp84_5⟩ := hp84_3
      have hp84_4 : rg r84_1 (-32768) 32767 := hp84_4
      have hp84_5 : r84_1.toInt = (v0.toInt / 65536 + 32768) % 65536 - 32768 := hp84_5
      have hP : va_P D vwCl [(tls, .inl (ct 1, 4001, .inl g_tls)), (tl, .inr (10, [.ref tls, .ref o0, .ref p0, .int x_tl_3, .int y_tl_477_4])), (o0, .inr (5, [.ref o0r, .int x_o0_1])), (o0r, .inl (ct 1, 60000, .inl k_o0r77_5))] _ := hP
      have hD : va_D A [(tls, .inl (ct 1, 4001, .inl g_tls)), (tl, .inr (10, [.ref tls, .ref o0, .ref p0, .int x_tl_3, .int y_tl_477_4])), (o0, .inr (5, [.ref o0r, .int x_o0_1])), (o0r, .inl (ct 1, 60000, .inl k_o0r77_5))] := hD
      refine lv_iadd hx hb dX10_turnJump_87 ?_
      refine lv_topi (fun z87_1 ez87_1 => ?_)
      refine lv_istore (lv' := [(5, .int z87_1), (6, .int 7), (4, .int r1_1), (0, .ref tl), (1, .long v0), (3, .int v1)]) hx hb dX10_turnJump_88 hl (by decide) rfl (fun ls hl => ?_)
      refine lv_aload_n hx hb dX10_turnJump_90 rfl (lv_at hl 3 rfl) ?_
      refine lv_iload hx hb dX10_turnJump_91 (lv_at hl 0 rfl) ?_
      refine lv_if_lt (tgt := 106) hx hb dX10_turnJump_93 (by decide) (fun c93_1 => ?_) (fun c93_1 => ?_)
      · have t93_2 := (i_lt c93_1)
        have r93_3 : rg z87_1 (-2147483648) (-1) := rg_ltA t93_2 (rg_any z87_1) (show rg (0 : Int32) 0 0 from rg_l (by decide)) (by decide)
        refine lv_iconst (v := 0) hx hb dX10_turnJump_106 (by decide) ?_
        refine lv_goto (tgt := 124) hx hb dX10_turnJump_107 (by decide) ?_
        refine go_v (k1 := 0) (n1 := 0) (wr := [(tls, .inl (ct 1, 4001, .inl g_tls))]) [1, 2, 3] [0] (rn_V (As := [.int 0]) (rest := []) (c_X10_putGoing l D ct tl (0 : Int32) tls o0 p0 x_tl_3 y_tl_477_4 o0r x_o0_1 k_o0r77_5 h_x_tl_3 (rg_of (show 0 ≤ y_tl_477_4.toInt ∧ y_tl_477_4.toInt ≤ 999990 by have q0 := h_x_tl_4.2; have q1 := hp23_6.1; have q2 := hp23_7; have q3 := hp45_7; have q4 := hp57_7; have q5 := hp77_7; omega)) h_x_o0_1 _) (cb_of (n := 1) hn mw_1349 mw_10 mw_1346 mhX10_putGoing ⟨(Nat.le_of_ble_eq_true rfl), (Nat.le_of_ble_eq_true rfl)⟩) hx hb hml hown hn hK hSK hZ hS mw_1348 mw_s156 (ci := 10) (q0 := 0) rfl rfl rfl rfl hl.1 (Nat.le_of_ble_eq_true rfl) dX10_turnJump_124 ⟨(Nat.le_of_ble_eq_true rfl), (Nat.le_of_ble_eq_true rfl)⟩) hP hD hS hA rfl rfl (by decide) (by decide) (by decide) (Nat.le_of_ble_eq_true rfl) (Nat.le_of_ble_eq_true rfl) (fun u124_2 H locs hp124_3 hP hD hS => ?_)
        obtain ⟨y_tl_4124_4, k_o0r124_5⟩ := u124_2
        obtain ⟨hp124_6, hp124_7⟩ := hp124_3
        have hp124_6 : rg y_tl_4124_4 1 1000001 := hp124_6
        have hp124_7 : y_tl_4124_4.toInt = y_tl_477_4.toInt + 1 := hp124_7
        have hP : va_P D vwCl [(tls, .inl (ct 1, 4001, .inl g_tls)), (tl, .inr (10, [.ref tls, .ref o0, .ref p0, .int x_tl_3, .int y_tl_4124_4])), (o0, .inr (5, [.ref o0r, .int x_o0_1])), (o0r, .inl (ct 1, 60000, .inl k_o0r124_5))] _ := hP
        have hD : va_D A [(tls, .inl (ct 1, 4001, .inl g_tls)), (tl, .inr (10, [.ref tls, .ref o0, .ref p0, .int x_tl_3, .int y_tl_4124_4])), (o0, .inr (5, [.ref o0r, .int x_o0_1])), (o0r, .inl (ct 1, 60000, .inl k_o0r124_5))] := hD
        exact endq_v hQ hx hb hr hlocks dX10_turnJump_127 (y_tl_4124_4, k_o0r124_5) ⟨hp124_6, (show x_tl_4.toInt + 1 ≤ y_tl_4124_4.toInt ∧ y_tl_4124_4.toInt ≤ x_tl_4.toInt + 7 by have q0 := hp23_7; have q1 := hp45_7; have q2 := hp57_7; have q3 := hp77_7; have q4 := hp124_7; omega), (show y_tl_4124_4.toInt = x_tl_4.toInt + ((d : Nat) : Int) by have q0 := h_x_tl_4.1; have q1 := h_x_tl_4.2; have q2 := hp124_6.1; have q3 := hp124_6.2; have q4 := (rg_any kk).1; have q5 := (rg_any kk).2; have q6 := (rg_any cc).1; have q7 := (rg_any cc).2; have q8 := hp23_6.1; have q9 := hp23_6.2; have q10 := hp77_6.1; have q11 := hp77_6.2; have q12 := (rl_any v0).1; have q13 := (rl_any v0).2; have q14 := hp1_4.1; have q15 := hp1_4.2; have q16 := hp45_6.1; have q17 := hp45_6.2; have q18 := hp57_6.1; have q19 := hp57_6.2; have q20 := r72_2.1; have q21 := r72_2.2; have q22 := (eq_shr (c := 16) (k := 4) ez72_1 (by decide) (by decide)); have q23 := (show rg (5 : Int32) 5 5 from rg_l (by decide)).1; have q24 := (show rg (5 : Int32) 5 5 from rg_l (by decide)).2; have q25 := hp13_4.1; have q26 := hp13_4.2; have q27 := r33_3.1; have q28 := r33_3.2; have q29 := hp84_4.1; have q30 := hp84_4.2; have q31 := (show rg (0 : Int32) 0 0 from rg_l (by decide)).1; have q32 := (show rg (0 : Int32) 0 0 from rg_l (by decide)).2; have q33 := hq0; have q34 := hq1; have q35 := hk0_2; have q36 := hk0_3; have q37 := hk0_4; have q38 := hk0_5; have q39 := hk0_6; have q40 := hk0_7; have q41 := hk0_8; have q42 := hk0_9; have q43 := hk0_10; have q44 := hk0_11; have q45 := hk0_12; have q46 := hk0_13; have q47 := hk0_14; have q48 := hk0_15; have q49 := hp1_5; have q50 := hk4_1; have q51 := t9_2; have q52 := hp13_5; have q53 := hp23_7; have q54 := hp23_8; have q55 := hp23_9; have q56 := hp23_10; have q57 := hp30_5; have q58 := hp30_6; have q59 := t33_2; have q60 := hp45_7; have q61 := hp57_7; have q62 := hp77_7; have q63 := hp77_8; have q64 := hp77_9; have q65 := hp84_5; have q66 := hp124_7; have q67 := (show (0 : Int32).toInt = 0 from by decide); have q68 := (show (5 : Int32).toInt = 5 from by decide); omega)⟩ hP hD hS [1, 2, 3, 0] rfl (by decide) rfl (Nat.le_of_ble_eq_true rfl) (Nat.le_of_ble_eq_true rfl)
      · have t93_2 := (i_nlt c93_1)
        have r93_3 : rg z87_1 0 2147483647 := rg_leB t93_2 (show rg (0 : Int32) 0 0 from rg_l (by decide)) (rg_any z87_1) (by decide)
        refine lv_iload hx hb dX10_turnJump_96 (lv_at hl 0 rfl) ?_
        refine lv_aload_n hx hb dX10_turnJump_98 rfl (lv_at hl 3 rfl) ?_
        refine va_get (D := D) (ci := 10) (v := .ref tls) (C := RX10) (T := TX10) (N := 5) hx hb (htX10 hn) (fun _ h => h) hown hK hP 1 rfl rfl 0 (by decide) (hn.get mw_288 rfl) (fun _ h9 => h9) rfl dX10_turnJump_99 ?_
        refine va_alen (v := 4001) hx hb hK hP 0 1 rfl rfl (show Int32.ofNat 4001 = 4001 by decide) dX10_turnJump_102 ?_
        refine lv_icmp_lt (tgt := 110) hx hb dX10_turnJump_103 (by decide) (fun c103_1 => ?_) (fun c103_1 => ?_)
        · have t103_2 := (i_lt c103_1)
          have r103_3 : rg z87_1 0 4000 := rg_ltA t103_2 r93_3 (show rg (4001 : Int32) 4001 4001 from rg_l (by decide)) (by decide)
          refine lv_iconst (v := 4) hx hb dX10_turnJump_110 (by decide) ?_
          refine lv_aload_n hx hb dX10_turnJump_111 rfl (lv_at hl 3 rfl) ?_
          refine va_get (D := D) (ci := 10) (v := .ref tls) (C := RX10) (T := TX10) (N := 5) hx hb (htX10 hn) (fun _ h => h) hown hK hP 1 rfl rfl 0 (by decide) (hn.get mw_288 rfl) (fun _ h9 => h9) rfl dX10_turnJump_112 ?_
          refine lv_iload hx hb dX10_turnJump_115 (lv_at hl 0 rfl) ?_
          have hi117_1 : vp_in z87_1 4001 := (in_rg r103_3 (by decide))
          refine va_iald hx hb hK hP 0 1 rfl rfl hi117_1 dX10_turnJump_117 ?_
          refine lv_topi (fun z117_2 ez117_2 => ?_)
          have r117_3 : rg z117_2 0 1073741824 := Rg_at h_g_tls hi117_1 ez117_2
          refine lv_aload_n hx hb dX10_turnJump_118 rfl (lv_at hl 3 rfl) ?_
          refine va_get (D := D) (ci := 10) (v := .int y_tl_477_4) (C := RX10) (T := TX10) (N := 5) hx hb (htX10 hn) (fun _ h => h) hown hK hP 1 rfl rfl 4 (by decide) (hn.get mw_292 rfl) (fun _ h9 => h9) rfl dX10_turnJump_119 ?_
          refine lv_isub hx hb dX10_turnJump_122 ?_
          refine lv_topi (fun z122_1 ez122_1 => ?_)
          have r122_2 : rg z122_1 (-1000001) 1073741823 := rg_sub ez122_1 r117_3 hp77_6 (by decide)
          refine lv_imul hx hb dX10_turnJump_123 ?_
          refine lv_topi (fun z123_1 ez123_1 => ?_)
          refine go_v (k1 := 0) (n1 := 0) (wr := [(tls, .inl (ct 1, 4001, .inl g_tls))]) [1, 2, 3] [0] (rn_V (As := [.int z123_1]) (rest := []) (c_X10_putGoing l D ct tl z123_1 tls o0 p0 x_tl_3 y_tl_477_4 o0r x_o0_1 k_o0r77_5 h_x_tl_3 (rg_of (show 0 ≤ y_tl_477_4.toInt ∧ y_tl_477_4.toInt ≤ 999990 by have q0 := h_x_tl_4.2; have q1 := hp23_6.1; have q2 := hp23_7; have q3 := hp45_7; have q4 := hp57_7; have q5 := hp77_7; omega)) h_x_o0_1 _) (cb_of (n := 1) hn mw_1349 mw_10 mw_1346 mhX10_putGoing ⟨(Nat.le_of_ble_eq_true rfl), (Nat.le_of_ble_eq_true rfl)⟩) hx hb hml hown hn hK hSK hZ hS mw_1348 mw_s156 (ci := 10) (q0 := 0) rfl rfl rfl rfl hl.1 (Nat.le_of_ble_eq_true rfl) dX10_turnJump_124 ⟨(Nat.le_of_ble_eq_true rfl), (Nat.le_of_ble_eq_true rfl)⟩) hP hD hS hA rfl rfl (by decide) (by decide) (by decide) (Nat.le_of_ble_eq_true rfl) (Nat.le_of_ble_eq_true rfl) (fun u124_2 H locs hp124_3 hP hD hS => ?_)
          obtain ⟨y_tl_4124_4, k_o0r124_5⟩ := u124_2
          obtain ⟨hp124_6, hp124_7⟩ := hp124_3
          have hp124_6 : rg y_tl_4124_4 1 1000001 := hp124_6
          have hp124_7 : y_tl_4124_4.toInt = y_tl_477_4.toInt + 1 := hp124_7
          have hP : va_P D vwCl [(tls, .inl (ct 1, 4001, .inl g_tls)), (tl, .inr (10, [.ref tls, .ref o0, .ref p0, .int x_tl_3, .int y_tl_4124_4])), (o0, .inr (5, [.ref o0r, .int x_o0_1])), (o0r, .inl (ct 1, 60000, .inl k_o0r124_5))] _ := hP
          have hD : va_D A [(tls, .inl (ct 1, 4001, .inl g_tls)), (tl, .inr (10, [.ref tls, .ref o0, .ref p0, .int x_tl_3, .int y_tl_4124_4])), (o0, .inr (5, [.ref o0r, .int x_o0_1])), (o0r, .inl (ct 1, 60000, .inl k_o0r124_5))] := hD
          exact endq_v hQ hx hb hr hlocks dX10_turnJump_127 (y_tl_4124_4, k_o0r124_5) ⟨hp124_6, (show x_tl_4.toInt + 1 ≤ y_tl_4124_4.toInt ∧ y_tl_4124_4.toInt ≤ x_tl_4.toInt + 7 by have q0 := hp23_7; have q1 := hp45_7; have q2 := hp57_7; have q3 := hp77_7; have q4 := hp124_7; omega), (show y_tl_4124_4.toInt = x_tl_4.toInt + ((d : Nat) : Int) by have q0 := h_x_tl_4.1; have q1 := h_x_tl_4.2; have q2 := hp124_6.1; have q3 := hp124_6.2; have q4 := (rg_any kk).1; have q5 := (rg_any kk).2; have q6 := (rg_any cc).1; have q7 := (rg_any cc).2; have q8 := hp23_6.1; have q9 := hp23_6.2; have q10 := hp77_6.1; have q11 := hp77_6.2; have q12 := (rl_any v0).1; have q13 := (rl_any v0).2; have q14 := hp1_4.1; have q15 := hp1_4.2; have q16 := hp45_6.1; have q17 := hp45_6.2; have q18 := hp57_6.1; have q19 := hp57_6.2; have q20 := r72_2.1; have q21 := r72_2.2; have q22 := (eq_shr (c := 16) (k := 4) ez72_1 (by decide) (by decide)); have q23 := (show rg (5 : Int32) 5 5 from rg_l (by decide)).1; have q24 := (show rg (5 : Int32) 5 5 from rg_l (by decide)).2; have q25 := hp13_4.1; have q26 := hp13_4.2; have q27 := r33_3.1; have q28 := r33_3.2; have q29 := hp84_4.1; have q30 := hp84_4.2; have q31 := (show rg (0 : Int32) 0 0 from rg_l (by decide)).1; have q32 := (show rg (0 : Int32) 0 0 from rg_l (by decide)).2; have q33 := hq0; have q34 := hq1; have q35 := hk0_2; have q36 := hk0_3; have q37 := hk0_4; have q38 := hk0_5; have q39 := hk0_6; have q40 := hk0_7; have q41 := hk0_8; have q42 := hk0_9; have q43 := hk0_10; have q44 := hk0_11; have q45 := hk0_12; have q46 := hk0_13; have q47 := hk0_14; have q48 := hk0_15; have q49 := hp1_5; have q50 := hk4_1; have q51 := t9_2; have q52 := hp13_5; have q53 := hp23_7; have q54 := hp23_8; have q55 := hp23_9; have q56 := hp23_10; have q57 := hp30_5; have q58 := hp30_6; have q59 := t33_2; have q60 := hp45_7; have q61 := hp57_7; have q62 := hp77_7; have q63 := hp77_8; have q64 := hp77_9; have q65 := hp84_5; have q66 := hp124_7; have q67 := (show (0 : Int32).toInt = 0 from by decide); have q68 := (show (5 : Int32).toInt = 5 from by decide); omega)⟩ hP hD hS [1, 2, 3, 0] rfl (by decide) rfl (Nat.le_of_ble_eq_true rfl) (Nat.le_of_ble_eq_true rfl)
        · have t103_2 := (i_nlt c103_1)
          have r103_3 : rg z87_1 4001 2147483647 := rg_leB t103_2 (show rg (4001 : Int32) 4001 4001 from rg_l (by decide)) r93_3 (by decide)
          refine lv_iconst (v := 0) hx hb dX10_turnJump_106 (by decide) ?_
          refine lv_goto (tgt := 124) hx hb dX10_turnJump_107 (by decide) ?_
          refine go_v (k1 := 0) (n1 := 0) (wr := [(tls, .inl (ct 1, 4001, .inl g_tls))]) [1, 2, 3] [0] (rn_V (As := [.int 0]) (rest := []) (c_X10_putGoing l D ct tl (0 : Int32) tls o0 p0 x_tl_3 y_tl_477_4 o0r x_o0_1 k_o0r77_5 h_x_tl_3 (rg_of (show 0 ≤ y_tl_477_4.toInt ∧ y_tl_477_4.toInt ≤ 999990 by have q0 := h_x_tl_4.2; have q1 := hp23_6.1; have q2 := hp23_7; have q3 := hp45_7; have q4 := hp57_7; have q5 := hp77_7; omega)) h_x_o0_1 _) (cb_of (n := 1) hn mw_1349 mw_10 mw_1346 mhX10_putGoing ⟨(Nat.le_of_ble_eq_true rfl), (Nat.le_of_ble_eq_true rfl)⟩) hx hb hml hown hn hK hSK hZ hS mw_1348 mw_s156 (ci := 10) (q0 := 0) rfl rfl rfl rfl hl.1 (Nat.le_of_ble_eq_true rfl) dX10_turnJump_124 ⟨(Nat.le_of_ble_eq_true rfl), (Nat.le_of_ble_eq_true rfl)⟩) hP hD hS hA rfl rfl (by decide) (by decide) (by decide) (Nat.le_of_ble_eq_true rfl) (Nat.le_of_ble_eq_true rfl) (fun u124_2 H locs hp124_3 hP hD hS => ?_)
          obtain ⟨y_tl_4124_4, k_o0r124_5⟩ := u124_2
          obtain ⟨hp124_6, hp124_7⟩ := hp124_3
          have hp124_6 : rg y_tl_4124_4 1 1000001 := hp124_6
          have hp124_7 : y_tl_4124_4.toInt = y_tl_477_4.toInt + 1 := hp124_7
          have hP : va_P D vwCl [(tls, .inl (ct 1, 4001, .inl g_tls)), (tl, .inr (10, [.ref tls, .ref o0, .ref p0, .int x_tl_3, .int y_tl_4124_4])), (o0, .inr (5, [.ref o0r, .int x_o0_1])), (o0r, .inl (ct 1, 60000, .inl k_o0r124_5))] _ := hP
          have hD : va_D A [(tls, .inl (ct 1, 4001, .inl g_tls)), (tl, .inr (10, [.ref tls, .ref o0, .ref p0, .int x_tl_3, .int y_tl_4124_4])), (o0, .inr (5, [.ref o0r, .int x_o0_1])), (o0r, .inl (ct 1, 60000, .inl k_o0r124_5))] := hD
          exact endq_v hQ hx hb hr hlocks dX10_turnJump_127 (y_tl_4124_4, k_o0r124_5) ⟨hp124_6, (show x_tl_4.toInt + 1 ≤ y_tl_4124_4.toInt ∧ y_tl_4124_4.toInt ≤ x_tl_4.toInt + 7 by have q0 := hp23_7; have q1 := hp45_7; have q2 := hp57_7; have q3 := hp77_7; have q4 := hp124_7; omega), (show y_tl_4124_4.toInt = x_tl_4.toInt + ((d : Nat) : Int) by have q0 := h_x_tl_4.1; have q1 := h_x_tl_4.2; have q2 := hp124_6.1; have q3 := hp124_6.2; have q4 := (rg_any kk).1; have q5 := (rg_any kk).2; have q6 := (rg_any cc).1; have q7 := (rg_any cc).2; have q8 := hp23_6.1; have q9 := hp23_6.2; have q10 := hp77_6.1; have q11 := hp77_6.2; have q12 := (rl_any v0).1; have q13 := (rl_any v0).2; have q14 := hp1_4.1; have q15 := hp1_4.2; have q16 := hp45_6.1; have q17 := hp45_6.2; have q18 := hp57_6.1; have q19 := hp57_6.2; have q20 := r72_2.1; have q21 := r72_2.2; have q22 := (eq_shr (c := 16) (k := 4) ez72_1 (by decide) (by decide)); have q23 := (show rg (5 : Int32) 5 5 from rg_l (by decide)).1; have q24 := (show rg (5 : Int32) 5 5 from rg_l (by decide)).2; have q25 := hp13_4.1; have q26 := hp13_4.2; have q27 := r33_3.1; have q28 := r33_3.2; have q29 := hp84_4.1; have q30 := hp84_4.2; have q31 := (show rg (0 : Int32) 0 0 from rg_l (by decide)).1; have q32 := (show rg (0 : Int32) 0 0 from rg_l (by decide)).2; have q33 := hq0; have q34 := hq1; have q35 := hk0_2; have q36 := hk0_3; have q37 := hk0_4; have q38 := hk0_5; have q39 := hk0_6; have q40 := hk0_7; have q41 := hk0_8; have q42 := hk0_9; have q43 := hk0_10; have q44 := hk0_11; have q45 := hk0_12; have q46 := hk0_13; have q47 := hk0_14; have q48 := hk0_15; have q49 := hp1_5; have q50 := hk4_1; have q51 := t9_2; have q52 := hp13_5; have q53 := hp23_7; have q54 := hp23_8; have q55 := hp23_9; have q56 := hp23_10; have q57 := hp30_5; have q58 := hp30_6; have q59 := t33_2; have q60 := hp45_7; have q61 := hp57_7; have q62 := hp77_7; have q63 := hp77_8; have q64 := hp77_9; have q65 := hp84_5; have q66 := hp124_7; have q67 := (show (0 : Int32).toInt = 0 from by decide); have q68 := (show (5 : Int32).toInt = 5 from by decide); omega)⟩ hP hD hS [1, 2, 3, 0] rfl (by decide) rfl (Nat.le_of_ble_eq_true rfl) (Nat.le_of_ble_eq_true rfl)
set_option maxHeartbeats 2000000 in
theorem c_X10_turnRead_w (l : Launch) (D : va_G) (ct : Nat → ClassId) (d : Nat) (cc : Int32) (kk : Int32) (tl : Nat) (v0 : Int64) (tls : Nat) (o0 : Nat) (p0 : Nat) (x_tl_3 : Int32) (x_tl_4 : Int32) (o0r : Nat) (x_o0_1 : Int32) (g_o0r : Nat → Int32) (h_x_tl_3 : rg x_tl_3 0 1) (h_x_tl_4 : rg x_tl_4 0 999800) (h_x_o0_1 : rg x_o0_1 0 60000) (hq0 : cc.toInt = v0.toInt % 256) (hq1 : kk.toInt = v0.toInt / 4294967296) (hg0 : TWread cc.toInt kk.toInt d) : KV (S := Int32 × (Nat → Int32)) l yX10_turnRead cX10_turnRead 6 none 4 87 D ct [.ref tl, .long v0] [(tl, .inr (10, [.ref tls, .ref o0, .ref p0, .int x_tl_3, .int x_tl_4])), (o0, .inr (5, [.ref o0r, .int x_o0_1])), (o0r, .inl (ct 1, 60000, .inl g_o0r))] 0 0 (fun (u : Int32 × (Nat → Int32)) => match u with | (y_tl_4, k_o0r) => rg y_tl_4 1 1000001 ∧ (y_tl_4.toInt = x_tl_4.toInt + ((d : Nat) : Int))) (fun (u : Int32 × (Nat → Int32)) => match u with | (y_tl_4, k_o0r) => [(tl, .inr (10, [.ref tls, .ref o0, .ref p0, .int x_tl_3, .int y_tl_4])), (o0, .inr (5, [.ref o0r, .int x_o0_1])), (o0r, .inl (ct 1, 60000, .inl k_o0r))]) := by
  refine KVq_of (by decide) (Nat.le_of_ble_eq_true rfl) (fun p e s m below meth c A Q C0 hA H locs hS hP hD hQ ls hl => ?_)
  obtain ⟨hx, hb, hr, hown, hin, hml, hlocks, hn, hK, hZ, hSK⟩ := C0
  have hl : lv_has ls 6 [(0, .ref tl), (1, .long v0)] := hl
  obtain ⟨tw0_1_0, tw0_1_1, tw0_1_2, tw0_1_3, tw0_1_4, tw0_1_5, tw0_1_6, tw0_1_7, tw0_1_8, tw0_1_9, tw0_1_10, tw0_1_11, tw0_1_12, tw0_1_13, tw0_1_14, tw0_1_15⟩ := hg0
  have hk0_2 : (-2048 ≤ kk.toInt ∧ kk.toInt ≤ 2047) ∨ (kk.toInt < -2048 ∨ 2047 < kk.toInt) := FF.mk (by omega)
  have hk0_3 : (-2048 ≤ kk.toInt ∧ kk.toInt ≤ 2047) ∧ 64 ≤ cc.toInt ∧ (cc.toInt / 8) % 4 = 0 → ((d : Nat) : Int) = 19 := FF.mk tw0_1_0
  have hk0_4 : (-2048 ≤ kk.toInt ∧ kk.toInt ≤ 2047) ∧ 64 ≤ cc.toInt ∧ (cc.toInt / 8) % 4 = 1 → ((d : Nat) : Int) = 13 := FF.mk tw0_1_1
  have hk0_5 : (-2048 ≤ kk.toInt ∧ kk.toInt ≤ 2047) ∧ 64 ≤ cc.toInt ∧ (cc.toInt / 8) % 4 = 2 → ((d : Nat) : Int) = 10 := FF.mk tw0_1_2
  have hk0_6 : (-2048 ≤ kk.toInt ∧ kk.toInt ≤ 2047) ∧ 64 ≤ cc.toInt ∧ (cc.toInt / 8) % 4 = 3 → ((d : Nat) : Int) = 31 := FF.mk tw0_1_3
  have hk0_7 : (-2048 ≤ kk.toInt ∧ kk.toInt ≤ 2047) ∧ cc.toInt < 64 ∧ (cc.toInt / 8) % 4 = 0 → ((d : Nat) : Int) = 18 := FF.mk tw0_1_4
  have hk0_8 : (-2048 ≤ kk.toInt ∧ kk.toInt ≤ 2047) ∧ cc.toInt < 64 ∧ (cc.toInt / 8) % 4 = 1 → ((d : Nat) : Int) = 12 := FF.mk tw0_1_5
  have hk0_9 : (-2048 ≤ kk.toInt ∧ kk.toInt ≤ 2047) ∧ cc.toInt < 64 ∧ (cc.toInt / 8) % 4 = 2 → ((d : Nat) : Int) = 9 := FF.mk tw0_1_6
  have hk0_10 : (-2048 ≤ kk.toInt ∧ kk.toInt ≤ 2047) ∧ cc.toInt < 64 ∧ (cc.toInt / 8) % 4 = 3 → ((d : Nat) : Int) = 30 := FF.mk tw0_1_7
  have hk0_11 : (kk.toInt < -2048 ∨ 2047 < kk.toInt) ∧ 64 ≤ cc.toInt ∧ (cc.toInt / 8) % 4 = 0 → ((d : Nat) : Int) = 20 := FF.mk tw0_1_8
  have hk0_12 : (kk.toInt < -2048 ∨ 2047 < kk.toInt) ∧ 64 ≤ cc.toInt ∧ (cc.toInt / 8) % 4 = 1 → ((d : Nat) : Int) = 14 := FF.mk tw0_1_9
  have hk0_13 : (kk.toInt < -2048 ∨ 2047 < kk.toInt) ∧ 64 ≤ cc.toInt ∧ (cc.toInt / 8) % 4 = 2 → ((d : Nat) : Int) = 11 := FF.mk tw0_1_10
  have hk0_14 : (kk.toInt < -2048 ∨ 2047 < kk.toInt) ∧ 64 ≤ cc.toInt ∧ (cc.toInt / 8) % 4 = 3 → ((d : Nat) : Int) = 32 := FF.mk tw0_1_11
  have hk0_15 : (kk.toInt < -2048 ∨ 2047 < kk.toInt) ∧ cc.toInt < 64 ∧ (cc.toInt / 8) % 4 = 0 → ((d : Nat) : Int) = 19 := FF.mk tw0_1_12
  have hk0_16 : (kk.toInt < -2048 ∨ 2047 < kk.toInt) ∧ cc.toInt < 64 ∧ (cc.toInt / 8) % 4 = 1 → ((d : Nat) : Int) = 13 := FF.mk tw0_1_13
  have hk0_17 : (kk.toInt < -2048 ∨ 2047 < kk.toInt) ∧ cc.toInt < 64 ∧ (cc.toInt / 8) % 4 = 2 → ((d : Nat) : Int) = 10 := FF.mk tw0_1_14
  have hk0_18 : (kk.toInt < -2048 ∨ 2047 < kk.toInt) ∧ cc.toInt < 64 ∧ (cc.toInt / 8) % 4 = 3 → ((d : Nat) : Int) = 31 := FF.mk tw0_1_15
  refine lv_lload_n hx hb dX10_turnRead_0 rfl (lv_at hl 1 rfl) ?_
  refine go_i (k1 := 0) (n1 := 0) (wr := [(tl, .inr (10, [.ref tls, .ref o0, .ref p0, .int x_tl_3, .int x_tl_4])), (o0, .inr (5, [.ref o0r, .int x_o0_1])), (o0r, .inl (ct 1, 60000, .inl g_o0r))]) [] [0, 1, 2] (rn_SN (As := [.long v0]) (rest := []) (c_X7_codeOf l D ct v0  _) (cn_of (n := 1) hn mw_956 mw_7 mw_1299 mhX7_codeOf ⟨(Nat.le_of_ble_eq_true rfl), (Nat.le_of_ble_eq_true rfl)⟩) hx hb hml hown hn hK hSK hZ hS mw_955 rfl hl.1 (Nat.le_of_ble_eq_true rfl) dX10_turnRead_1 ⟨(Nat.le_of_ble_eq_true rfl), (Nat.le_of_ble_eq_true rfl)⟩) hP hD hS hA rfl rfl (by decide) (by decide) (by decide) (Nat.le_of_ble_eq_true rfl) (Nat.le_of_ble_eq_true rfl) (fun r1_1 u1_2 H locs hp1_3 hP hD hS => ?_)
  obtain ⟨hp1_4, hp1_5⟩ := hp1_3
  have hp1_4 : rg r1_1 0 255 := hp1_4
  have hp1_5 : r1_1.toInt = v0.toInt % 256 := hp1_5
  have hP : va_P D vwCl [(tl, .inr (10, [.ref tls, .ref o0, .ref p0, .int x_tl_3, .int x_tl_4])), (o0, .inr (5, [.ref o0r, .int x_o0_1])), (o0r, .inl (ct 1, 60000, .inl g_o0r))] _ := hP
  have hD : va_D A [(tl, .inr (10, [.ref tls, .ref o0, .ref p0, .int x_tl_3, .int x_tl_4])), (o0, .inr (5, [.ref o0r, .int x_o0_1])), (o0r, .inl (ct 1, 60000, .inl g_o0r))] := hD
  have hk4_1 : r1_1.toInt = cc.toInt := FF.mk (by have h1 := FF.out hq0; have h2 := FF.out hp1_5; omega)
  refine lv_istore_n (lv' := [(3, .int r1_1), (0, .ref tl), (1, .long v0)]) hx hb dX10_turnRead_4 rfl hl (by decide) rfl (fun ls hl => ?_)
  refine lv_iload_n hx hb dX10_turnRead_5 rfl (lv_at hl 0 rfl) ?_
  refine go_i (k1 := 0) (n1 := 0) (wr := [(tl, .inr (10, [.ref tls, .ref o0, .ref p0, .int x_tl_3, .int x_tl_4])), (o0, .inr (5, [.ref o0r, .int x_o0_1])), (o0r, .inl (ct 1, 60000, .inl g_o0r))]) [] [0, 1, 2] (rn_SN (As := [.int r1_1]) (rest := []) (c_X7_sizeOf_w l D ct r1_1 hp1_4 _) (cn_of (n := 1) hn mw_1150 mw_7 mw_1374 mhX7_sizeOf ⟨(Nat.le_of_ble_eq_true rfl), (Nat.le_of_ble_eq_true rfl)⟩) hx hb hml hown hn hK hSK hZ hS mw_1149 rfl hl.1 (Nat.le_of_ble_eq_true rfl) dX10_turnRead_6 ⟨(Nat.le_of_ble_eq_true rfl), (Nat.le_of_ble_eq_true rfl)⟩) hP hD hS hA rfl rfl (by decide) (by decide) (by decide) (Nat.le_of_ble_eq_true rfl) (Nat.le_of_ble_eq_true rfl) (fun r6_1 u6_2 H locs hp6_3 hP hD hS => ?_)
  obtain ⟨hp6_4, hp6_5, hp6_6, hp6_7, hp6_8⟩ := hp6_3
  have hp6_4 : rg r6_1 1 8 := hp6_4
  have hp6_5 : (r1_1.toInt / 8) % 4 = 0 → r6_1.toInt = 4 := hp6_5
  have hp6_6 : (r1_1.toInt / 8) % 4 = 1 → r6_1.toInt = 2 := hp6_6
  have hp6_7 : (r1_1.toInt / 8) % 4 = 2 → r6_1.toInt = 1 := hp6_7
  have hp6_8 : (r1_1.toInt / 8) % 4 = 3 → r6_1.toInt = 8 := hp6_8
  have hP : va_P D vwCl [(tl, .inr (10, [.ref tls, .ref o0, .ref p0, .int x_tl_3, .int x_tl_4])), (o0, .inr (5, [.ref o0r, .int x_o0_1])), (o0r, .inl (ct 1, 60000, .inl g_o0r))] _ := hP
  have hD : va_D A [(tl, .inr (10, [.ref tls, .ref o0, .ref p0, .int x_tl_3, .int x_tl_4])), (o0, .inr (5, [.ref o0r, .int x_o0_1])), (o0r, .inl (ct 1, 60000, .inl g_o0r))] := hD
  refine lv_istore (lv' := [(4, .int r6_1), (3, .int r1_1), (0, .ref tl), (1, .long v0)]) hx hb dX10_turnRead_9 hl (by decide) rfl (fun ls hl => ?_)
  refine lv_aload_n hx hb dX10_turnRead_11 rfl (lv_at hl 2 rfl) ?_
  refine lv_iconst (v := 5) hx hb dX10_turnRead_12 (by decide) ?_
  refine lv_lload_n hx hb dX10_turnRead_13 rfl (lv_at hl 3 rfl) ?_
  refine go_i (k1 := 0) (n1 := 0) (wr := [(tl, .inr (10, [.ref tls, .ref o0, .ref p0, .int x_tl_3, .int x_tl_4])), (o0, .inr (5, [.ref o0r, .int x_o0_1])), (o0r, .inl (ct 1, 60000, .inl g_o0r))]) [] [0, 1, 2] (rn_SN (As := [.long v0]) (rest := [.int 5, .ref tl]) (c_X7_kOf_w l D ct v0  _) (cn_of (n := 1) hn mw_995 mw_7 mw_1311 mhX7_kOf ⟨(Nat.le_of_ble_eq_true rfl), (Nat.le_of_ble_eq_true rfl)⟩) hx hb hml hown hn hK hSK hZ hS mw_994 rfl hl.1 (Nat.le_of_ble_eq_true rfl) dX10_turnRead_14 ⟨(Nat.le_of_ble_eq_true rfl), (Nat.le_of_ble_eq_true rfl)⟩) hP hD hS hA rfl rfl (by decide) (by decide) (by decide) (Nat.le_of_ble_eq_true rfl) (Nat.le_of_ble_eq_true rfl) (fun r14_1 u14_2 H locs hp14_3 hP hD hS => ?_)
  have hp14_4 := hp14_3
  have hp14_4 : r14_1.toInt = v0.toInt / 4294967296 := hp14_4
  have hP : va_P D vwCl [(tl, .inr (10, [.ref tls, .ref o0, .ref p0, .int x_tl_3, .int x_tl_4])), (o0, .inr (5, [.ref o0r, .int x_o0_1])), (o0r, .inl (ct 1, 60000, .inl g_o0r))] _ := hP
  have hD : va_D A [(tl, .inr (10, [.ref tls, .ref o0, .ref p0, .int x_tl_3, .int x_tl_4])), (o0, .inr (5, [.ref o0r, .int x_o0_1])), (o0r, .inl (ct 1, 60000, .inl g_o0r))] := hD
  have hk17_1 : r14_1.toInt = kk.toInt := FF.mk (by have h1 := FF.out hq1; have h2 := FF.out hp14_4; omega)
  refine go_v (k1 := 0) (n1 := 0) (wr := []) [0, 1, 2] [] (rn_V (As := [.int 5, .int r14_1]) (rest := []) (c_X10_putNumber_w l D ct tl (5 : Int32) r14_1 tls o0 p0 x_tl_3 x_tl_4 o0r x_o0_1 g_o0r h_x_tl_3 (rg_w h_x_tl_4 (by decide)) h_x_o0_1 _) (cb_of (n := 2) hn mw_1315 mw_10 mw_1312 mhX10_putNumber ⟨(Nat.le_of_ble_eq_true rfl), (Nat.le_of_ble_eq_true rfl)⟩) hx hb hml hown hn hK hSK hZ hS mw_1314 mw_s148 (ci := 10) (q0 := 0) rfl rfl rfl rfl hl.1 (Nat.le_of_ble_eq_true rfl) dX10_turnRead_17 ⟨(Nat.le_of_ble_eq_true rfl), (Nat.le_of_ble_eq_true rfl)⟩) hP hD hS hA rfl rfl (by decide) (by decide) (by decide) (Nat.le_of_ble_eq_true rfl) (Nat.le_of_ble_eq_true rfl) (fun u17_3 H locs hp17_4 hP hD hS => ?_)
  obtain ⟨y_tl_417_5, k_o0r17_6⟩ := u17_3
  obtain ⟨hp17_7, hp17_8, hp17_9, hp17_10⟩ := hp17_4
  have hp17_7 : rg y_tl_417_5 1 1000001 := hp17_7
  have hp17_8 : x_tl_4.toInt + 1 ≤ y_tl_417_5.toInt ∧ y_tl_417_5.toInt ≤ x_tl_4.toInt + 2 := hp17_8
  have hp17_9 : -2048 ≤ r14_1.toInt ∧ r14_1.toInt ≤ 2047 → y_tl_417_5.toInt = x_tl_4.toInt + 1 := hp17_9
  have hp17_10 : r14_1.toInt < -2048 ∨ 2047 < r14_1.toInt → y_tl_417_5.toInt = x_tl_4.toInt + 2 := hp17_10
  have hP : va_P D vwCl [(tl, .inr (10, [.ref tls, .ref o0, .ref p0, .int x_tl_3, .int y_tl_417_5])), (o0, .inr (5, [.ref o0r, .int x_o0_1])), (o0r, .inl (ct 1, 60000, .inl k_o0r17_6))] _ := hP
  have hD : va_D A [(tl, .inr (10, [.ref tls, .ref o0, .ref p0, .int x_tl_3, .int y_tl_417_5])), (o0, .inr (5, [.ref o0r, .int x_o0_1])), (o0r, .inl (ct 1, 60000, .inl k_o0r17_6))] := hD
  refine lv_iload_n hx hb dX10_turnRead_20 rfl (lv_at hl 1 rfl) ?_
  refine lv_bipush (v := 64) hx hb dX10_turnRead_21 (by decide) ?_
  refine lv_icmp_lt (tgt := 43) hx hb dX10_turnRead_23 (by decide) (fun c23_1 => ?_) (fun c23_1 => ?_)
  · have t23_2 := (i_lt c23_1)
    have r23_3 : rg r1_1 0 63 := rg_ltA t23_2 hp1_4 (show rg (64 : Int32) 64 64 from rg_l (by decide)) (by decide)
    refine lv_aload_n hx hb dX10_turnRead_43 rfl (lv_at hl 2 rfl) ?_
    refine lv_iconst (v := 5) hx hb dX10_turnRead_44 (by decide) ?_
    refine go_v (k1 := 0) (n1 := 0) (wr := []) [0, 1, 2] [] (rn_V (As := [.int 5]) (rest := []) (c_X10_putCut l D ct tl (5 : Int32) tls o0 p0 x_tl_3 y_tl_417_5 o0r x_o0_1 k_o0r17_6 h_x_tl_3 (rg_of (show 0 ≤ y_tl_417_5.toInt ∧ y_tl_417_5.toInt ≤ 999950 by have q0 := h_x_tl_4.1; have q1 := h_x_tl_4.2; have q2 := hp17_8; omega)) h_x_o0_1 _) (cb_of (n := 1) hn mw_1358 mw_10 mw_1355 mhX10_putCut ⟨(Nat.le_of_ble_eq_true rfl), (Nat.le_of_ble_eq_true rfl)⟩) hx hb hml hown hn hK hSK hZ hS mw_1357 mw_s157 (ci := 10) (q0 := 0) rfl rfl rfl rfl hl.1 (Nat.le_of_ble_eq_true rfl) dX10_turnRead_45 ⟨(Nat.le_of_ble_eq_true rfl), (Nat.le_of_ble_eq_true rfl)⟩) hP hD hS hA rfl rfl (by decide) (by decide) (by decide) (Nat.le_of_ble_eq_true rfl) (Nat.le_of_ble_eq_true rfl) (fun u45_2 H locs hp45_3 hP hD hS => ?_)
    obtain ⟨y_tl_445_4, k_o0r45_5⟩ := u45_2
    obtain ⟨hp45_6, hp45_7⟩ := hp45_3
    have hp45_6 : rg y_tl_445_4 1 1000001 := hp45_6
    have hp45_7 : y_tl_445_4.toInt = y_tl_417_5.toInt + 2 := hp45_7
    have hP : va_P D vwCl [(tl, .inr (10, [.ref tls, .ref o0, .ref p0, .int x_tl_3, .int y_tl_445_4])), (o0, .inr (5, [.ref o0r, .int x_o0_1])), (o0r, .inl (ct 1, 60000, .inl k_o0r45_5))] _ := hP
    have hD : va_D A [(tl, .inr (10, [.ref tls, .ref o0, .ref p0, .int x_tl_3, .int y_tl_445_4])), (o0, .inr (5, [.ref o0r, .int x_o0_1])), (o0r, .inl (ct 1, 60000, .inl k_o0r45_5))] := hD
    refine lv_aload_n hx hb dX10_turnRead_48 rfl (lv_at hl 2 rfl) ?_
    refine lv_bipush (v := 6) hx hb dX10_turnRead_49 (by decide) ?_
    refine lv_iconst (v := 5) hx hb dX10_turnRead_51 (by decide) ?_
    refine lv_iload hx hb dX10_turnRead_52 (lv_at hl 0 rfl) ?_
    refine go_v (k1 := 0) (n1 := 0) (wr := []) [0, 1, 2] [] (rn_V (As := [.int 6, .int 5, .int r6_1]) (rest := []) (c_X10_putAdd l D ct tl (6 : Int32) (5 : Int32) r6_1 tls o0 p0 x_tl_3 y_tl_445_4 o0r x_o0_1 k_o0r45_5 h_x_tl_3 (rg_of (show 0 ≤ y_tl_445_4.toInt ∧ y_tl_445_4.toInt ≤ 999990 by have q0 := h_x_tl_4.1; have q1 := h_x_tl_4.2; have q2 := hp17_8; have q3 := hp45_7; omega)) h_x_o0_1 _) (cb_of (n := 3) hn mw_1325 mw_10 mw_1322 mhX10_putAdd ⟨(Nat.le_of_ble_eq_true rfl), (Nat.le_of_ble_eq_true rfl)⟩) hx hb hml hown hn hK hSK hZ hS mw_1324 mw_s150 (ci := 10) (q0 := 0) rfl rfl rfl rfl hl.1 (Nat.le_of_ble_eq_true rfl) dX10_turnRead_54 ⟨(Nat.le_of_ble_eq_true rfl), (Nat.le_of_ble_eq_true rfl)⟩) hP hD hS hA rfl rfl (by decide) (by decide) (by decide) (Nat.le_of_ble_eq_true rfl) (Nat.le_of_ble_eq_true rfl) (fun u54_2 H locs hp54_3 hP hD hS => ?_)
    obtain ⟨y_tl_454_4, k_o0r54_5⟩ := u54_2
    obtain ⟨hp54_6, hp54_7⟩ := hp54_3
    have hp54_6 : rg y_tl_454_4 1 1000001 := hp54_6
    have hp54_7 : y_tl_454_4.toInt = y_tl_445_4.toInt + 1 := hp54_7
    have hP : va_P D vwCl [(tl, .inr (10, [.ref tls, .ref o0, .ref p0, .int x_tl_3, .int y_tl_454_4])), (o0, .inr (5, [.ref o0r, .int x_o0_1])), (o0r, .inl (ct 1, 60000, .inl k_o0r54_5))] _ := hP
    have hD : va_D A [(tl, .inr (10, [.ref tls, .ref o0, .ref p0, .int x_tl_3, .int y_tl_454_4])), (o0, .inr (5, [.ref o0r, .int x_o0_1])), (o0r, .inl (ct 1, 60000, .inl k_o0r54_5))] := hD
    refine lv_aload_n hx hb dX10_turnRead_57 rfl (lv_at hl 2 rfl) ?_
    refine lv_bipush (v := 7) hx hb dX10_turnRead_58 (by decide) ?_
    refine lv_bipush (v := 9) hx hb dX10_turnRead_60 (by decide) ?_
    refine lv_bipush (v := 6) hx hb dX10_turnRead_62 (by decide) ?_
    refine lv_bipush (v := 12) hx hb dX10_turnRead_64 (by decide) ?_
    refine go_v (k1 := 0) (n1 := 0) (wr := []) [0, 1, 2] [] (rn_V (As := [.int 7, .int 9, .int 6, .int 12]) (rest := []) (c_X10_putBranch l D ct tl (7 : Int32) (9 : Int32) (6 : Int32) (12 : Int32) tls o0 p0 x_tl_3 y_tl_454_4 o0r x_o0_1 k_o0r54_5 h_x_tl_3 (rg_of (show 0 ≤ y_tl_454_4.toInt ∧ y_tl_454_4.toInt ≤ 999990 by have q0 := h_x_tl_4.1; have q1 := h_x_tl_4.2; have q2 := hp17_8; have q3 := hp45_7; have q4 := hp54_7; omega)) h_x_o0_1 _) (cb_of (n := 4) hn mw_1345 mw_10 mw_1342 mhX10_putBranch ⟨(Nat.le_of_ble_eq_true rfl), (Nat.le_of_ble_eq_true rfl)⟩) hx hb hml hown hn hK hSK hZ hS mw_1344 mw_s155 (ci := 10) (q0 := 0) rfl rfl rfl rfl hl.1 (Nat.le_of_ble_eq_true rfl) dX10_turnRead_66 ⟨(Nat.le_of_ble_eq_true rfl), (Nat.le_of_ble_eq_true rfl)⟩) hP hD hS hA rfl rfl (by decide) (by decide) (by decide) (Nat.le_of_ble_eq_true rfl) (Nat.le_of_ble_eq_true rfl) (fun u66_2 H locs hp66_3 hP hD hS => ?_)
    obtain ⟨y_tl_466_4, k_o0r66_5⟩ := u66_2
    obtain ⟨hp66_6, hp66_7⟩ := hp66_3
    have hp66_6 : rg y_tl_466_4 1 1000001 := hp66_6
    have hp66_7 : y_tl_466_4.toInt = y_tl_454_4.toInt + 1 := hp66_7
    have hP : va_P D vwCl [(tl, .inr (10, [.ref tls, .ref o0, .ref p0, .int x_tl_3, .int y_tl_466_4])), (o0, .inr (5, [.ref o0r, .int x_o0_1])), (o0r, .inl (ct 1, 60000, .inl k_o0r66_5))] _ := hP
    have hD : va_D A [(tl, .inr (10, [.ref tls, .ref o0, .ref p0, .int x_tl_3, .int y_tl_466_4])), (o0, .inr (5, [.ref o0r, .int x_o0_1])), (o0r, .inl (ct 1, 60000, .inl k_o0r66_5))] := hD
    refine lv_aload_n hx hb dX10_turnRead_69 rfl (lv_at hl 2 rfl) ?_
    refine lv_bipush (v := 10) hx hb dX10_turnRead_70 (by decide) ?_
    refine lv_iconst (v := 0) hx hb dX10_turnRead_72 (by decide) ?_
    refine lv_iconst (v := 0) hx hb dX10_turnRead_73 (by decide) ?_
    refine go_v (k1 := 0) (n1 := 0) (wr := []) [0, 1, 2] [] (rn_V (As := [.int 10, .int 0, .int 0]) (rest := []) (c_X10_putAdd l D ct tl (10 : Int32) (0 : Int32) (0 : Int32) tls o0 p0 x_tl_3 y_tl_466_4 o0r x_o0_1 k_o0r66_5 h_x_tl_3 (rg_of (show 0 ≤ y_tl_466_4.toInt ∧ y_tl_466_4.toInt ≤ 999990 by have q0 := h_x_tl_4.1; have q1 := h_x_tl_4.2; have q2 := hp17_8; have q3 := hp45_7; have q4 := hp54_7; have q5 := hp66_7; omega)) h_x_o0_1 _) (cb_of (n := 3) hn mw_1325 mw_10 mw_1322 mhX10_putAdd ⟨(Nat.le_of_ble_eq_true rfl), (Nat.le_of_ble_eq_true rfl)⟩) hx hb hml hown hn hK hSK hZ hS mw_1324 mw_s150 (ci := 10) (q0 := 0) rfl rfl rfl rfl hl.1 (Nat.le_of_ble_eq_true rfl) dX10_turnRead_74 ⟨(Nat.le_of_ble_eq_true rfl), (Nat.le_of_ble_eq_true rfl)⟩) hP hD hS hA rfl rfl (by decide) (by decide) (by decide) (Nat.le_of_ble_eq_true rfl) (Nat.le_of_ble_eq_true rfl) (fun u74_2 H locs hp74_3 hP hD hS => ?_)
    obtain ⟨y_tl_474_4, k_o0r74_5⟩ := u74_2
    obtain ⟨hp74_6, hp74_7⟩ := hp74_3
    have hp74_6 : rg y_tl_474_4 1 1000001 := hp74_6
    have hp74_7 : y_tl_474_4.toInt = y_tl_466_4.toInt + 1 := hp74_7
    have hP : va_P D vwCl [(tl, .inr (10, [.ref tls, .ref o0, .ref p0, .int x_tl_3, .int y_tl_474_4])), (o0, .inr (5, [.ref o0r, .int x_o0_1])), (o0r, .inl (ct 1, 60000, .inl k_o0r74_5))] _ := hP
    have hD : va_D A [(tl, .inr (10, [.ref tls, .ref o0, .ref p0, .int x_tl_3, .int y_tl_474_4])), (o0, .inr (5, [.ref o0r, .int x_o0_1])), (o0r, .inl (ct 1, 60000, .inl k_o0r74_5))] := hD
    refine lv_aload_n hx hb dX10_turnRead_77 rfl (lv_at hl 2 rfl) ?_
    refine lv_bipush (v := 115) hx hb dX10_turnRead_78 (by decide) ?_
    refine go_v (k1 := 0) (n1 := 0) (wr := []) [0, 1, 2] [] (rn_V (As := [.int 115]) (rest := []) (c_X10_put l D ct tl (115 : Int32) tls o0 p0 x_tl_3 y_tl_474_4 o0r x_o0_1 k_o0r74_5 h_x_tl_3 (rg_of (show 0 ≤ y_tl_474_4.toInt ∧ y_tl_474_4.toInt ≤ 1000000 by have q0 := h_x_tl_4.1; have q1 := h_x_tl_4.2; have q2 := hp17_8; have q3 := hp45_7; have q4 := hp54_7; have q5 := hp66_7; have q6 := hp74_7; omega)) h_x_o0_1 _) (cb_of (n := 1) hn mw_1319 mw_10 mw_1316 mhX10_put ⟨(Nat.le_of_ble_eq_true rfl), (Nat.le_of_ble_eq_true rfl)⟩) hx hb hml hown hn hK hSK hZ hS mw_1318 mw_s149 (ci := 10) (q0 := 0) rfl rfl rfl rfl hl.1 (Nat.le_of_ble_eq_true rfl) dX10_turnRead_80 ⟨(Nat.le_of_ble_eq_true rfl), (Nat.le_of_ble_eq_true rfl)⟩) hP hD hS hA rfl rfl (by decide) (by decide) (by decide) (Nat.le_of_ble_eq_true rfl) (Nat.le_of_ble_eq_true rfl) (fun u80_2 H locs hp80_3 hP hD hS => ?_)
    obtain ⟨y_tl_480_4, k_o0r80_5⟩ := u80_2
    obtain ⟨hp80_6, hp80_7⟩ := hp80_3
    have hp80_6 : rg y_tl_480_4 1 1000001 := hp80_6
    have hp80_7 : y_tl_480_4.toInt = y_tl_474_4.toInt + 1 := hp80_7
    have hP : va_P D vwCl [(tl, .inr (10, [.ref tls, .ref o0, .ref p0, .int x_tl_3, .int y_tl_480_4])), (o0, .inr (5, [.ref o0r, .int x_o0_1])), (o0r, .inl (ct 1, 60000, .inl k_o0r80_5))] _ := hP
    have hD : va_D A [(tl, .inr (10, [.ref tls, .ref o0, .ref p0, .int x_tl_3, .int y_tl_480_4])), (o0, .inr (5, [.ref o0r, .int x_o0_1])), (o0r, .inl (ct 1, 60000, .inl k_o0r80_5))] := hD
    refine lv_aload_n hx hb dX10_turnRead_83 rfl (lv_at hl 2 rfl) ?_
    refine lv_bipush (v := 51) hx hb dX10_turnRead_84 (by decide) ?_
    refine lv_iconst (v := 0) hx hb dX10_turnRead_86 (by decide) ?_
    refine lv_iconst (v := 0) hx hb dX10_turnRead_87 (by decide) ?_
    refine lv_iconst (v := 5) hx hb dX10_turnRead_88 (by decide) ?_
    refine lv_iconst (v := 5) hx hb dX10_turnRead_89 (by decide) ?_
    refine lv_bipush (v := 8) hx hb dX10_turnRead_90 (by decide) ?_
    refine go_v (k1 := 0) (n1 := 0) (wr := []) [0, 1, 2] [] (rn_V (As := [.int 51, .int 0, .int 0, .int 5, .int 5, .int 8]) (rest := []) (c_X10_putOp l D ct tl (51 : Int32) (0 : Int32) (0 : Int32) (5 : Int32) (5 : Int32) (8 : Int32) tls o0 p0 x_tl_3 y_tl_480_4 o0r x_o0_1 k_o0r80_5 h_x_tl_3 (rg_of (show 0 ≤ y_tl_480_4.toInt ∧ y_tl_480_4.toInt ≤ 999990 by have q0 := h_x_tl_4.1; have q1 := h_x_tl_4.2; have q2 := hp17_8; have q3 := hp45_7; have q4 := hp54_7; have q5 := hp66_7; have q6 := hp74_7; have q7 := hp80_7; omega)) h_x_o0_1 _) (cb_of (n := 6) hn mw_1329 mw_10 mw_1326 mhX10_putOp ⟨(Nat.le_of_ble_eq_true rfl), (Nat.le_of_ble_eq_true rfl)⟩) hx hb hml hown hn hK hSK hZ hS mw_1328 mw_s151 (ci := 10) (q0 := 0) rfl rfl rfl rfl hl.1 (Nat.le_of_ble_eq_true rfl) dX10_turnRead_92 ⟨(Nat.le_of_ble_eq_true rfl), (Nat.le_of_ble_eq_true rfl)⟩) hP hD hS hA rfl rfl (by decide) (by decide) (by decide) (Nat.le_of_ble_eq_true rfl) (Nat.le_of_ble_eq_true rfl) (fun u92_2 H locs hp92_3 hP hD hS => ?_)
    obtain ⟨y_tl_492_4, k_o0r92_5⟩ := u92_2
    obtain ⟨hp92_6, hp92_7⟩ := hp92_3
    have hp92_6 : rg y_tl_492_4 1 1000001 := hp92_6
    have hp92_7 : y_tl_492_4.toInt = y_tl_480_4.toInt + 1 := hp92_7
    have hP : va_P D vwCl [(tl, .inr (10, [.ref tls, .ref o0, .ref p0, .int x_tl_3, .int y_tl_492_4])), (o0, .inr (5, [.ref o0r, .int x_o0_1])), (o0r, .inl (ct 1, 60000, .inl k_o0r92_5))] _ := hP
    have hD : va_D A [(tl, .inr (10, [.ref tls, .ref o0, .ref p0, .int x_tl_3, .int y_tl_492_4])), (o0, .inr (5, [.ref o0r, .int x_o0_1])), (o0r, .inl (ct 1, 60000, .inl k_o0r92_5))] := hD
    refine lv_aload_n hx hb dX10_turnRead_95 rfl (lv_at hl 2 rfl) ?_
    refine lv_iconst (v := 3) hx hb dX10_turnRead_96 (by decide) ?_
    refine lv_iconst (v := 4) hx hb dX10_turnRead_97 (by decide) ?_
    refine lv_bipush (v := 10) hx hb dX10_turnRead_98 (by decide) ?_
    refine lv_iconst (v := 5) hx hb dX10_turnRead_100 (by decide) ?_
    refine lv_iconst (v := 0) hx hb dX10_turnRead_101 (by decide) ?_
    refine go_v (k1 := 0) (n1 := 0) (wr := []) [0, 1, 2] [] (rn_V (As := [.int 3, .int 4, .int 10, .int 5, .int 0]) (rest := []) (c_X10_putImm l D ct tl (3 : Int32) (4 : Int32) (10 : Int32) (5 : Int32) (0 : Int32) tls o0 p0 x_tl_3 y_tl_492_4 o0r x_o0_1 k_o0r92_5 h_x_tl_3 (rg_of (show 0 ≤ y_tl_492_4.toInt ∧ y_tl_492_4.toInt ≤ 999990 by have q0 := h_x_tl_4.1; have q1 := h_x_tl_4.2; have q2 := hp17_8; have q3 := hp45_7; have q4 := hp54_7; have q5 := hp66_7; have q6 := hp74_7; have q7 := hp80_7; have q8 := hp92_7; omega)) h_x_o0_1 _) (cb_of (n := 5) hn mw_1341 mw_10 mw_1338 mhX10_putImm ⟨(Nat.le_of_ble_eq_true rfl), (Nat.le_of_ble_eq_true rfl)⟩) hx hb hml hown hn hK hSK hZ hS mw_1340 mw_s154 (ci := 10) (q0 := 0) rfl rfl rfl rfl hl.1 (Nat.le_of_ble_eq_true rfl) dX10_turnRead_102 ⟨(Nat.le_of_ble_eq_true rfl), (Nat.le_of_ble_eq_true rfl)⟩) hP hD hS hA rfl rfl (by decide) (by decide) (by decide) (Nat.le_of_ble_eq_true rfl) (Nat.le_of_ble_eq_true rfl) (fun u102_2 H locs hp102_3 hP hD hS => ?_)
    obtain ⟨y_tl_4102_4, k_o0r102_5⟩ := u102_2
    obtain ⟨hp102_6, hp102_7⟩ := hp102_3
    have hp102_6 : rg y_tl_4102_4 1 1000001 := hp102_6
    have hp102_7 : y_tl_4102_4.toInt = y_tl_492_4.toInt + 1 := hp102_7
    have hP : va_P D vwCl [(tl, .inr (10, [.ref tls, .ref o0, .ref p0, .int x_tl_3, .int y_tl_4102_4])), (o0, .inr (5, [.ref o0r, .int x_o0_1])), (o0r, .inl (ct 1, 60000, .inl k_o0r102_5))] _ := hP
    have hD : va_D A [(tl, .inr (10, [.ref tls, .ref o0, .ref p0, .int x_tl_3, .int y_tl_4102_4])), (o0, .inr (5, [.ref o0r, .int x_o0_1])), (o0r, .inl (ct 1, 60000, .inl k_o0r102_5))] := hD
    refine lv_iconst (v := 1) hx hb dX10_turnRead_105 (by decide) ?_
    refine lv_istore (lv' := [(5, .int 1), (4, .int r6_1), (3, .int r1_1), (0, .ref tl), (1, .long v0)]) hx hb dX10_turnRead_106 hl (by decide) rfl (fun ls hl => ?_)
    have b108 : ∀ (n108 : Nat) (j108_l5 : Int32) (j108_ftl_4 : Int32) (j108_co0r : Nat → Int32) (H : Heap) (locs : List Loc) (ls : Array Slot), (rg j108_l5 1 8) → (rg j108_ftl_4 1 1000001) → (j108_ftl_4.toInt + 3 * (r6_1.toInt - j108_l5.toInt) = x_tl_4.toInt + ((d : Nat) : Int)) → (1 ≤ j108_l5.toInt) → (j108_l5.toInt ≤ r6_1.toInt) → ((2147483647 : Int) - j108_l5.toInt).toNat < n108 → lv_has ls 6 [(0, .ref tl), (4, .int r6_1), (5, .int j108_l5)] → va_P D vwCl [(tl, .inr (10, [.ref tls, .ref o0, .ref p0, .int x_tl_3, .int j108_ftl_4])), (o0, .inr (5, [.ref o0r, .int x_o0_1])), (o0r, .inl (ct 1, 60000, .inl j108_co0r))] H → va_D A [(tl, .inr (10, [.ref tls, .ref o0, .ref p0, .int x_tl_3, .int j108_ftl_4])), (o0, .inr (5, [.ref o0r, .int x_o0_1])), (o0r, .inl (ct 1, 60000, .inl j108_co0r))] → va_S A s.heap H locs → W p l e ({ frames := 4, cells := 0, slots := 0, locals := 87 }) s m [.ref tl, .long v0].toArray below meth c H locs 0 0 Q (F0 m 108 ls []) := by
      intro n108
      induction n108 with
      | zero => intros; rename_i hms _ _ _ _; exact absurd hms (Nat.not_lt_zero _)
      | succ n108 ih108 =>
        intro j108_l5 j108_ftl_4 j108_co0r H locs ls r108_1001 r108_1002 hi108_1003 hi108_1004 hi108_1005 hms108 hl hP hD hS
        refine lv_iload hx hb dX10_turnRead_108 (lv_at hl 2 rfl) ?_
        refine lv_iload hx hb dX10_turnRead_110 (lv_at hl 1 rfl) ?_
        refine lv_icmp_ge (tgt := 160) hx hb dX10_turnRead_112 (by decide) (fun c112_1 => ?_) (fun c112_1 => ?_)
        · have t112_2 := (i_le c112_1)
          exact endq_v hQ hx hb hr hlocks dX10_turnRead_160 (j108_ftl_4, j108_co0r) ⟨r108_1002, (show j108_ftl_4.toInt = x_tl_4.toInt + ((d : Nat) : Int) by have q0 := hi108_1003; have q1 := hi108_1005; have q2 := t112_2; omega)⟩ hP hD hS [0, 1, 2] rfl (by decide) rfl (Nat.le_of_ble_eq_true rfl) (Nat.le_of_ble_eq_true rfl)
        · have t112_2 := (i_nle c112_1)
          have r112_3 : rg j108_l5 1 7 := rg_ltA t112_2 r108_1001 hp6_4 (by decide)
          have r112_4 : rg r6_1 2 8 := rg_ltB t112_2 r108_1001 hp6_4 (by decide)
          refine lv_aload_n hx hb dX10_turnRead_115 rfl (lv_at hl 0 rfl) ?_
          refine lv_bipush (v := 19) hx hb dX10_turnRead_116 (by decide) ?_
          refine lv_iconst (v := 1) hx hb dX10_turnRead_118 (by decide) ?_
          refine lv_bipush (v := 10) hx hb dX10_turnRead_119 (by decide) ?_
          refine lv_bipush (v := 10) hx hb dX10_turnRead_121 (by decide) ?_
          refine lv_bipush (v := 8) hx hb dX10_turnRead_123 (by decide) ?_
          refine go_v (k1 := 0) (n1 := 0) (wr := []) [0, 1, 2] [] (rn_V (As := [.int 19, .int 1, .int 10, .int 10, .int 8]) (rest := []) (c_X10_putImm l D ct tl (19 : Int32) (1 : Int32) (10 : Int32) (10 : Int32) (8 : Int32) tls o0 p0 x_tl_3 j108_ftl_4 o0r x_o0_1 j108_co0r h_x_tl_3 (rg_of (show 0 ≤ j108_ftl_4.toInt ∧ j108_ftl_4.toInt ≤ 999990 by have q0 := r108_1002.1; have q1 := h_x_tl_4.2; have q2 := r23_3.2; have q3 := hk0_7; have q4 := hk0_8; have q5 := hk0_10; have q6 := hk0_15; have q7 := hk0_16; have q8 := hk0_18; have q9 := hk4_1; have q10 := hp6_5; have q11 := hp6_6; have q12 := hp6_7; have q13 := hp6_8; have q14 := hi108_1003; have q15 := hi108_1004; have q16 := hi108_1005; have q17 := t112_2; omega)) h_x_o0_1 _) (cb_of (n := 5) hn mw_1341 mw_10 mw_1338 mhX10_putImm ⟨(Nat.le_of_ble_eq_true rfl), (Nat.le_of_ble_eq_true rfl)⟩) hx hb hml hown hn hK hSK hZ hS mw_1340 mw_s154 (ci := 10) (q0 := 0) rfl rfl rfl rfl hl.1 (Nat.le_of_ble_eq_true rfl) dX10_turnRead_125 ⟨(Nat.le_of_ble_eq_true rfl), (Nat.le_of_ble_eq_true rfl)⟩) hP hD hS hA rfl rfl (by decide) (by decide) (by decide) (Nat.le_of_ble_eq_true rfl) (Nat.le_of_ble_eq_true rfl) (fun u125_2 H locs hp125_3 hP hD hS => ?_)
          obtain ⟨y_tl_4125_4, k_o0r125_5⟩ := u125_2
          obtain ⟨hp125_6, hp125_7⟩ := hp125_3
          have hp125_6 : rg y_tl_4125_4 1 1000001 := hp125_6
          have hp125_7 : y_tl_4125_4.toInt = j108_ftl_4.toInt + 1 := hp125_7
          have hP : va_P D vwCl [(tl, .inr (10, [.ref tls, .ref o0, .ref p0, .int x_tl_3, .int y_tl_4125_4])), (o0, .inr (5, [.ref o0r, .int x_o0_1])), (o0r, .inl (ct 1, 60000, .inl k_o0r125_5))] _ := hP
          have hD : va_D A [(tl, .inr (10, [.ref tls, .ref o0, .ref p0, .int x_tl_3, .int y_tl_4125_4])), (o0, .inr (5, [.ref o0r, .int x_o0_1])), (o0r, .inl (ct 1, 60000, .inl k_o0r125_5))] := hD
          refine lv_aload_n hx hb dX10_turnRead_128 rfl (lv_at hl 0 rfl) ?_
          refine lv_iconst (v := 3) hx hb dX10_turnRead_129 (by decide) ?_
          refine lv_iconst (v := 4) hx hb dX10_turnRead_130 (by decide) ?_
          refine lv_bipush (v := 6) hx hb dX10_turnRead_131 (by decide) ?_
          refine lv_iconst (v := 5) hx hb dX10_turnRead_133 (by decide) ?_
          refine lv_iload hx hb dX10_turnRead_134 (lv_at hl 2 rfl) ?_
          refine go_v (k1 := 0) (n1 := 0) (wr := []) [0, 1, 2] [] (rn_V (As := [.int 3, .int 4, .int 6, .int 5, .int j108_l5]) (rest := []) (c_X10_putImm l D ct tl (3 : Int32) (4 : Int32) (6 : Int32) (5 : Int32) j108_l5 tls o0 p0 x_tl_3 y_tl_4125_4 o0r x_o0_1 k_o0r125_5 h_x_tl_3 (rg_of (show 0 ≤ y_tl_4125_4.toInt ∧ y_tl_4125_4.toInt ≤ 999990 by have q0 := r108_1002.1; have q1 := h_x_tl_4.2; have q2 := r23_3.2; have q3 := hk0_7; have q4 := hk0_8; have q5 := hk0_10; have q6 := hk0_15; have q7 := hk0_16; have q8 := hk0_18; have q9 := hk4_1; have q10 := hp6_5; have q11 := hp6_6; have q12 := hp6_7; have q13 := hp6_8; have q14 := hk17_1; have q15 := hp17_9; have q16 := hp17_10; have q17 := hi108_1003; have q18 := hi108_1004; have q19 := hi108_1005; have q20 := t112_2; have q21 := hp125_7; omega)) h_x_o0_1 _) (cb_of (n := 5) hn mw_1341 mw_10 mw_1338 mhX10_putImm ⟨(Nat.le_of_ble_eq_true rfl), (Nat.le_of_ble_eq_true rfl)⟩) hx hb hml hown hn hK hSK hZ hS mw_1340 mw_s154 (ci := 10) (q0 := 0) rfl rfl rfl rfl hl.1 (Nat.le_of_ble_eq_true rfl) dX10_turnRead_136 ⟨(Nat.le_of_ble_eq_true rfl), (Nat.le_of_ble_eq_true rfl)⟩) hP hD hS hA rfl rfl (by decide) (by decide) (by decide) (Nat.le_of_ble_eq_true rfl) (Nat.le_of_ble_eq_true rfl) (fun u136_2 H locs hp136_3 hP hD hS => ?_)
          obtain ⟨y_tl_4136_4, k_o0r136_5⟩ := u136_2
          obtain ⟨hp136_6, hp136_7⟩ := hp136_3
          have hp136_6 : rg y_tl_4136_4 1 1000001 := hp136_6
          have hp136_7 : y_tl_4136_4.toInt = y_tl_4125_4.toInt + 1 := hp136_7
          have hP : va_P D vwCl [(tl, .inr (10, [.ref tls, .ref o0, .ref p0, .int x_tl_3, .int y_tl_4136_4])), (o0, .inr (5, [.ref o0r, .int x_o0_1])), (o0r, .inl (ct 1, 60000, .inl k_o0r136_5))] _ := hP
          have hD : va_D A [(tl, .inr (10, [.ref tls, .ref o0, .ref p0, .int x_tl_3, .int y_tl_4136_4])), (o0, .inr (5, [.ref o0r, .int x_o0_1])), (o0r, .inl (ct 1, 60000, .inl k_o0r136_5))] := hD
          refine lv_aload_n hx hb dX10_turnRead_139 rfl (lv_at hl 0 rfl) ?_
          refine lv_bipush (v := 51) hx hb dX10_turnRead_140 (by decide) ?_
          refine lv_iconst (v := 0) hx hb dX10_turnRead_142 (by decide) ?_
          refine lv_bipush (v := 6) hx hb dX10_turnRead_143 (by decide) ?_
          refine lv_bipush (v := 10) hx hb dX10_turnRead_145 (by decide) ?_
          refine lv_bipush (v := 10) hx hb dX10_turnRead_147 (by decide) ?_
          refine lv_bipush (v := 6) hx hb dX10_turnRead_149 (by decide) ?_
          refine go_v (k1 := 0) (n1 := 0) (wr := []) [0, 1, 2] [] (rn_V (As := [.int 51, .int 0, .int 6, .int 10, .int 10, .int 6]) (rest := []) (c_X10_putOp l D ct tl (51 : Int32) (0 : Int32) (6 : Int32) (10 : Int32) (10 : Int32) (6 : Int32) tls o0 p0 x_tl_3 y_tl_4136_4 o0r x_o0_1 k_o0r136_5 h_x_tl_3 (rg_of (show 0 ≤ y_tl_4136_4.toInt ∧ y_tl_4136_4.toInt ≤ 999990 by have q0 := r108_1002.1; have q1 := h_x_tl_4.2; have q2 := r23_3.2; have q3 := hk0_7; have q4 := hk0_8; have q5 := hk0_10; have q6 := hk0_15; have q7 := hk0_16; have q8 := hk0_18; have q9 := hk4_1; have q10 := hp6_5; have q11 := hp6_6; have q12 := hp6_7; have q13 := hp6_8; have q14 := hk17_1; have q15 := hp17_9; have q16 := hp17_10; have q17 := hi108_1003; have q18 := hi108_1004; have q19 := hi108_1005; have q20 := t112_2; have q21 := hp125_7; have q22 := hp136_7; omega)) h_x_o0_1 _) (cb_of (n := 6) hn mw_1329 mw_10 mw_1326 mhX10_putOp ⟨(Nat.le_of_ble_eq_true rfl), (Nat.le_of_ble_eq_true rfl)⟩) hx hb hml hown hn hK hSK hZ hS mw_1328 mw_s151 (ci := 10) (q0 := 0) rfl rfl rfl rfl hl.1 (Nat.le_of_ble_eq_true rfl) dX10_turnRead_151 ⟨(Nat.le_of_ble_eq_true rfl), (Nat.le_of_ble_eq_true rfl)⟩) hP hD hS hA rfl rfl (by decide) (by decide) (by decide) (Nat.le_of_ble_eq_true rfl) (Nat.le_of_ble_eq_true rfl) (fun u151_2 H locs hp151_3 hP hD hS => ?_)
          obtain ⟨y_tl_4151_4, k_o0r151_5⟩ := u151_2
          obtain ⟨hp151_6, hp151_7⟩ := hp151_3
          have hp151_6 : rg y_tl_4151_4 1 1000001 := hp151_6
          have hp151_7 : y_tl_4151_4.toInt = y_tl_4136_4.toInt + 1 := hp151_7
          have hP : va_P D vwCl [(tl, .inr (10, [.ref tls, .ref o0, .ref p0, .int x_tl_3, .int y_tl_4151_4])), (o0, .inr (5, [.ref o0r, .int x_o0_1])), (o0r, .inl (ct 1, 60000, .inl k_o0r151_5))] _ := hP
          have hD : va_D A [(tl, .inr (10, [.ref tls, .ref o0, .ref p0, .int x_tl_3, .int y_tl_4151_4])), (o0, .inr (5, [.ref o0r, .int x_o0_1])), (o0r, .inl (ct 1, 60000, .inl k_o0r151_5))] := hD
          obtain ⟨x154_1, ex154_1⟩ : ∃ z : Int32, z = j108_l5 + 1 := ⟨_, rfl⟩
          have r154_2 : rg x154_1 2 8 := rg_add ex154_1 r112_3 (show rg (1 : Int32) 1 1 from rg_l (by decide)) (by decide)
          refine lv_iinc (v := x154_1) (lv' := [(5, .int x154_1), (0, .ref tl), (4, .int r6_1)]) hx hb dX10_turnRead_154 hl (k := 2) rfl (by rw [ex154_1]; rfl) (by decide) rfl (fun ls hl => ?_)
          refine lv_goto (tgt := 108) hx hb dX10_turnRead_157 (by decide) ?_
          exact ih108 x154_1 y_tl_4151_4 k_o0r151_5 H locs ls (rg_w r154_2 (by decide)) hp151_6 (show y_tl_4151_4.toInt + 3 * (r6_1.toInt - x154_1.toInt) = x_tl_4.toInt + ((d : Nat) : Int) by have q0 := (eq_add ex154_1 r112_3 (show rg (1 : Int32) 1 1 from rg_l (by decide)) (by decide)); have q1 := hi108_1003; have q2 := hp125_7; have q3 := hp136_7; have q4 := hp151_7; have q5 := (show (1 : Int32).toInt = 1 from by decide); omega) (show 1 ≤ x154_1.toInt by have q0 := (eq_add ex154_1 r112_3 (show rg (1 : Int32) 1 1 from rg_l (by decide)) (by decide)); have q1 := hi108_1004; have q2 := (show (1 : Int32).toInt = 1 from by decide); omega) (show x154_1.toInt ≤ r6_1.toInt by have q0 := (eq_add ex154_1 r112_3 (show rg (1 : Int32) 1 1 from rg_l (by decide)) (by decide)); have q1 := t112_2; have q2 := (show (1 : Int32).toInt = 1 from by decide); omega) (show ((2147483647 : Int) - x154_1.toInt).toNat < n108 by have q0 := r112_3.2; have q1 := (eq_add ex154_1 r112_3 (show rg (1 : Int32) 1 1 from rg_l (by decide)) (by decide)); have q2 := (show (1 : Int32).toInt = 1 from by decide); have q3 := hms108; omega) (lv_sub hl [1, 2, 0] rfl) hP hD hS
    exact b108 _ (1 : Int32) y_tl_4102_4 k_o0r102_5 H locs ls (rg_w (show rg (1 : Int32) 1 1 from rg_l (by decide)) (by decide)) hp102_6 (show y_tl_4102_4.toInt + 3 * (r6_1.toInt - (1 : Int32).toInt) = x_tl_4.toInt + ((d : Nat) : Int) by have q0 := hp6_4.1; have q1 := hp6_4.2; have q2 := r23_3.2; have q3 := hk0_7; have q4 := hk0_8; have q5 := hk0_9; have q6 := hk0_10; have q7 := hk0_15; have q8 := hk0_16; have q9 := hk0_17; have q10 := hk0_18; have q11 := hk4_1; have q12 := hp6_5; have q13 := hp6_6; have q14 := hp6_7; have q15 := hp6_8; have q16 := hk17_1; have q17 := hp17_8; have q18 := hp17_9; have q19 := hp17_10; have q20 := hp45_7; have q21 := hp54_7; have q22 := hp66_7; have q23 := hp74_7; have q24 := hp80_7; have q25 := hp92_7; have q26 := hp102_7; have q27 := (show (1 : Int32).toInt = 1 from by decide); omega) (show 1 ≤ (1 : Int32).toInt by have q0 := (show (1 : Int32).toInt = 1 from by decide); omega) (show (1 : Int32).toInt ≤ r6_1.toInt by have q0 := hp6_4.1; have q1 := (show (1 : Int32).toInt = 1 from by decide); omega) (Nat.lt_succ_self _) (lv_sub hl [3, 1, 0] rfl) hP hD hS
  · have t23_2 := (i_nlt c23_1)
    have r23_3 : rg r1_1 64 255 := rg_leB t23_2 (show rg (64 : Int32) 64 64 from rg_l (by decide)) hp1_4 (by decide)
    refine lv_aload_n hx hb dX10_turnRead_26 rfl (lv_at hl 2 rfl) ?_
    refine lv_bipush (v := 59) hx hb dX10_turnRead_27 (by decide) ?_
    refine lv_iconst (v := 0) hx hb dX10_turnRead_29 (by decide) ?_
    refine lv_iconst (v := 0) hx hb dX10_turnRead_30 (by decide) ?_
    refine lv_iconst (v := 5) hx hb dX10_turnRead_31 (by decide) ?_
    refine lv_iconst (v := 5) hx hb dX10_turnRead_32 (by decide) ?_
    refine lv_lload_n hx hb dX10_turnRead_33 rfl (lv_at hl 3 rfl) ?_
    refine go_i (k1 := 0) (n1 := 0) (wr := [(tl, .inr (10, [.ref tls, .ref o0, .ref p0, .int x_tl_3, .int y_tl_417_5])), (o0, .inr (5, [.ref o0r, .int x_o0_1])), (o0r, .inl (ct 1, 60000, .inl k_o0r17_6))]) [] [0, 1, 2] (rn_SN (As := [.long v0]) (rest := [.int 5, .int 5, .int 0, .int 0, .int 59, .ref tl]) (c_X7_sOf l D ct v0  _) (cn_of (n := 1) hn mw_989 mw_7 mw_1321 mhX7_sOf ⟨(Nat.le_of_ble_eq_true rfl), (Nat.le_of_ble_eq_true rfl)⟩) hx hb hml hown hn hK hSK hZ hS mw_988 rfl hl.1 (Nat.le_of_ble_eq_true rfl) dX10_turnRead_34 ⟨(Nat.le_of_ble_eq_true rfl), (Nat.le_of_ble_eq_true rfl)⟩) hP hD hS hA rfl rfl (by decide) (by decide) (by decide) (Nat.le_of_ble_eq_true rfl) (Nat.le_of_ble_eq_true rfl) (fun r34_1 u34_2 H locs hp34_3 hP hD hS => ?_)
    obtain ⟨hp34_4, hp34_5⟩ := hp34_3
    have hp34_4 : rg r34_1 0 15 := hp34_4
    have hp34_5 : r34_1.toInt = (v0.toInt / 4096) % 16 := hp34_5
    have hP : va_P D vwCl [(tl, .inr (10, [.ref tls, .ref o0, .ref p0, .int x_tl_3, .int y_tl_417_5])), (o0, .inr (5, [.ref o0r, .int x_o0_1])), (o0r, .inl (ct 1, 60000, .inl k_o0r17_6))] _ := hP
    have hD : va_D A [(tl, .inr (10, [.ref tls, .ref o0, .ref p0, .int x_tl_3, .int y_tl_417_5])), (o0, .inr (5, [.ref o0r, .int x_o0_1])), (o0r, .inl (ct 1, 60000, .inl k_o0r17_6))] := hD
    refine go_i (k1 := 0) (n1 := 0) (wr := [(tl, .inr (10, [.ref tls, .ref o0, .ref p0, .int x_tl_3, .int y_tl_417_5])), (o0, .inr (5, [.ref o0r, .int x_o0_1])), (o0r, .inl (ct 1, 60000, .inl k_o0r17_6))]) [] [0, 1, 2] (rn_S (As := [.int r34_1]) (rest := [.int 5, .int 5, .int 0, .int 0, .int 59, .ref tl]) (c_X10_placeOf l D ct r34_1  _) (cb_of (n := 1) hn mw_1308 mw_10 mw_1306 mhX10_placeOf ⟨(Nat.le_of_ble_eq_true rfl), (Nat.le_of_ble_eq_true rfl)⟩) hx hb hml hown hn hK hSK hZ hS mw_1307 rfl hl.1 (Nat.le_of_ble_eq_true rfl) dX10_turnRead_37 ⟨(Nat.le_of_ble_eq_true rfl), (Nat.le_of_ble_eq_true rfl)⟩) hP hD hS hA rfl rfl (by decide) (by decide) (by decide) (Nat.le_of_ble_eq_true rfl) (Nat.le_of_ble_eq_true rfl) (fun r37_1 u37_2 H locs hp37_3 hP hD hS => ?_)
    have hP : va_P D vwCl [(tl, .inr (10, [.ref tls, .ref o0, .ref p0, .int x_tl_3, .int y_tl_417_5])), (o0, .inr (5, [.ref o0r, .int x_o0_1])), (o0r, .inl (ct 1, 60000, .inl k_o0r17_6))] _ := hP
    have hD : va_D A [(tl, .inr (10, [.ref tls, .ref o0, .ref p0, .int x_tl_3, .int y_tl_417_5])), (o0, .inr (5, [.ref o0r, .int x_o0_1])), (o0r, .inl (ct 1, 60000, .inl k_o0r17_6))] := hD
    refine go_v (k1 := 0) (n1 := 0) (wr := []) [0, 1, 2] [] (rn_V (As := [.int 59, .int 0, .int 0, .int 5, .int 5, .int r37_1]) (rest := []) (c_X10_putOp l D ct tl (59 : Int32) (0 : Int32) (0 : Int32) (5 : Int32) (5 : Int32) r37_1 tls o0 p0 x_tl_3 y_tl_417_5 o0r x_o0_1 k_o0r17_6 h_x_tl_3 (rg_of (show 0 ≤ y_tl_417_5.toInt ∧ y_tl_417_5.toInt ≤ 999990 by have q0 := h_x_tl_4.1; have q1 := h_x_tl_4.2; have q2 := hp17_8; omega)) h_x_o0_1 _) (cb_of (n := 6) hn mw_1329 mw_10 mw_1326 mhX10_putOp ⟨(Nat.le_of_ble_eq_true rfl), (Nat.le_of_ble_eq_true rfl)⟩) hx hb hml hown hn hK hSK hZ hS mw_1328 mw_s151 (ci := 10) (q0 := 0) rfl rfl rfl rfl hl.1 (Nat.le_of_ble_eq_true rfl) dX10_turnRead_40 ⟨(Nat.le_of_ble_eq_true rfl), (Nat.le_of_ble_eq_true rfl)⟩) hP hD hS hA rfl rfl (by decide) (by decide) (by decide) (Nat.le_of_ble_eq_true rfl) (Nat.le_of_ble_eq_true rfl) (fun u40_2 H locs hp40_3 hP hD hS => ?_)
    obtain ⟨y_tl_440_4, k_o0r40_5⟩ := u40_2
    obtain ⟨hp40_6, hp40_7⟩ := hp40_3
    have hp40_6 : rg y_tl_440_4 1 1000001 := hp40_6
    have hp40_7 : y_tl_440_4.toInt = y_tl_417_5.toInt + 1 := hp40_7
    have hP : va_P D vwCl [(tl, .inr (10, [.ref tls, .ref o0, .ref p0, .int x_tl_3, .int y_tl_440_4])), (o0, .inr (5, [.ref o0r, .int x_o0_1])), (o0r, .inl (ct 1, 60000, .inl k_o0r40_5))] _ := hP
    have hD : va_D A [(tl, .inr (10, [.ref tls, .ref o0, .ref p0, .int x_tl_3, .int y_tl_440_4])), (o0, .inr (5, [.ref o0r, .int x_o0_1])), (o0r, .inl (ct 1, 60000, .inl k_o0r40_5))] := hD
    refine lv_aload_n hx hb dX10_turnRead_43 rfl (lv_at hl 2 rfl) ?_
    refine lv_iconst (v := 5) hx hb dX10_turnRead_44 (by decide) ?_
    refine go_v (k1 := 0) (n1 := 0) (wr := []) [0, 1, 2] [] (rn_V (As := [.int 5]) (rest := []) (c_X10_putCut l D ct tl (5 : Int32) tls o0 p0 x_tl_3 y_tl_440_4 o0r x_o0_1 k_o0r40_5 h_x_tl_3 (rg_of (show 0 ≤ y_tl_440_4.toInt ∧ y_tl_440_4.toInt ≤ 999950 by have q0 := h_x_tl_4.1; have q1 := h_x_tl_4.2; have q2 := hp17_8; have q3 := hp40_7; omega)) h_x_o0_1 _) (cb_of (n := 1) hn mw_1358 mw_10 mw_1355 mhX10_putCut ⟨(Nat.le_of_ble_eq_true rfl), (Nat.le_of_ble_eq_true rfl)⟩) hx hb hml hown hn hK hSK hZ hS mw_1357 mw_s157 (ci := 10) (q0 := 0) rfl rfl rfl rfl hl.1 (Nat.le_of_ble_eq_true rfl) dX10_turnRead_45 ⟨(Nat.le_of_ble_eq_true rfl), (Nat.le_of_ble_eq_true rfl)⟩) hP hD hS hA rfl rfl (by decide) (by decide) (by decide) (Nat.le_of_ble_eq_true rfl) (Nat.le_of_ble_eq_true rfl) (fun u45_2 H locs hp45_3 hP hD hS => ?_)
    obtain ⟨y_tl_445_4, k_o0r45_5⟩ := u45_2
    obtain ⟨hp45_6, hp45_7⟩ := hp45_3
    have hp45_6 : rg y_tl_445_4 1 1000001 := hp45_6
    have hp45_7 : y_tl_445_4.toInt = y_tl_440_4.toInt + 2 := hp45_7
    have hP : va_P D vwCl [(tl, .inr (10, [.ref tls, .ref o0, .ref p0, .int x_tl_3, .int y_tl_445_4])), (o0, .inr (5, [.ref o0r, .int x_o0_1])), (o0r, .inl (ct 1, 60000, .inl k_o0r45_5))] _ := hP
    have hD : va_D A [(tl, .inr (10, [.ref tls, .ref o0, .ref p0, .int x_tl_3, .int y_tl_445_4])), (o0, .inr (5, [.ref o0r, .int x_o0_1])), (o0r, .inl (ct 1, 60000, .inl k_o0r45_5))] := hD
    refine lv_aload_n hx hb dX10_turnRead_48 rfl (lv_at hl 2 rfl) ?_
    refine lv_bipush (v := 6) hx hb dX10_turnRead_49 (by decide) ?_
    refine lv_iconst (v := 5) hx hb dX10_turnRead_51 (by decide) ?_
    refine lv_iload hx hb dX10_turnRead_52 (lv_at hl 0 rfl) ?_
    refine go_v (k1 := 0) (n1 := 0) (wr := []) [0, 1, 2] [] (rn_V (As := [.int 6, .int 5, .int r6_1]) (rest := []) (c_X10_putAdd l D ct tl (6 : Int32) (5 : Int32) r6_1 tls o0 p0 x_tl_3 y_tl_445_4 o0r x_o0_1 k_o0r45_5 h_x_tl_3 (rg_of (show 0 ≤ y_tl_445_4.toInt ∧ y_tl_445_4.toInt ≤ 999990 by have q0 := h_x_tl_4.1; have q1 := h_x_tl_4.2; have q2 := hp17_8; have q3 := hp40_7; have q4 := hp45_7; omega)) h_x_o0_1 _) (cb_of (n := 3) hn mw_1325 mw_10 mw_1322 mhX10_putAdd ⟨(Nat.le_of_ble_eq_true rfl), (Nat.le_of_ble_eq_true rfl)⟩) hx hb hml hown hn hK hSK hZ hS mw_1324 mw_s150 (ci := 10) (q0 := 0) rfl rfl rfl rfl hl.1 (Nat.le_of_ble_eq_true rfl) dX10_turnRead_54 ⟨(Nat.le_of_ble_eq_true rfl), (Nat.le_of_ble_eq_true rfl)⟩) hP hD hS hA rfl rfl (by decide) (by decide) (by decide) (Nat.le_of_ble_eq_true rfl) (Nat.le_of_ble_eq_true rfl) (fun u54_2 H locs hp54_3 hP hD hS => ?_)
    obtain ⟨y_tl_454_4, k_o0r54_5⟩ := u54_2
    obtain ⟨hp54_6, hp54_7⟩ := hp54_3
    have hp54_6 : rg y_tl_454_4 1 1000001 := hp54_6
    have hp54_7 : y_tl_454_4.toInt = y_tl_445_4.toInt + 1 := hp54_7
    have hP : va_P D vwCl [(tl, .inr (10, [.ref tls, .ref o0, .ref p0, .int x_tl_3, .int y_tl_454_4])), (o0, .inr (5, [.ref o0r, .int x_o0_1])), (o0r, .inl (ct 1, 60000, .inl k_o0r54_5))] _ := hP
    have hD : va_D A [(tl, .inr (10, [.ref tls, .ref o0, .ref p0, .int x_tl_3, .int y_tl_454_4])), (o0, .inr (5, [.ref o0r, .int x_o0_1])), (o0r, .inl (ct 1, 60000, .inl k_o0r54_5))] := hD
    refine lv_aload_n hx hb dX10_turnRead_57 rfl (lv_at hl 2 rfl) ?_
    refine lv_bipush (v := 7) hx hb dX10_turnRead_58 (by decide) ?_
    refine lv_bipush (v := 9) hx hb dX10_turnRead_60 (by decide) ?_
    refine lv_bipush (v := 6) hx hb dX10_turnRead_62 (by decide) ?_
    refine lv_bipush (v := 12) hx hb dX10_turnRead_64 (by decide) ?_
    refine go_v (k1 := 0) (n1 := 0) (wr := []) [0, 1, 2] [] (rn_V (As := [.int 7, .int 9, .int 6, .int 12]) (rest := []) (c_X10_putBranch l D ct tl (7 : Int32) (9 : Int32) (6 : Int32) (12 : Int32) tls o0 p0 x_tl_3 y_tl_454_4 o0r x_o0_1 k_o0r54_5 h_x_tl_3 (rg_of (show 0 ≤ y_tl_454_4.toInt ∧ y_tl_454_4.toInt ≤ 999990 by have q0 := h_x_tl_4.1; have q1 := h_x_tl_4.2; have q2 := hp17_8; have q3 := hp40_7; have q4 := hp45_7; have q5 := hp54_7; omega)) h_x_o0_1 _) (cb_of (n := 4) hn mw_1345 mw_10 mw_1342 mhX10_putBranch ⟨(Nat.le_of_ble_eq_true rfl), (Nat.le_of_ble_eq_true rfl)⟩) hx hb hml hown hn hK hSK hZ hS mw_1344 mw_s155 (ci := 10) (q0 := 0) rfl rfl rfl rfl hl.1 (Nat.le_of_ble_eq_true rfl) dX10_turnRead_66 ⟨(Nat.le_of_ble_eq_true rfl), (Nat.le_of_ble_eq_true rfl)⟩) hP hD hS hA rfl rfl (by decide) (by decide) (by decide) (Nat.le_of_ble_eq_true rfl) (Nat.le_of_ble_eq_true rfl) (fun u66_2 H locs hp66_3 hP hD hS => ?_)
    obtain ⟨y_tl_466_4, k_o0r66_5⟩ := u66_2
    obtain ⟨hp66_6, hp66_7⟩ := hp66_3
    have hp66_6 : rg y_tl_466_4 1 1000001 := hp66_6
    have hp66_7 : y_tl_466_4.toInt = y_tl_454_4.toInt + 1 := hp66_7
    have hP : va_P D vwCl [(tl, .inr (10, [.ref tls, .ref o0, .ref p0, .int x_tl_3, .int y_tl_466_4])), (o0, .inr (5, [.ref o0r, .int x_o0_1])), (o0r, .inl (ct 1, 60000, .inl k_o0r66_5))] _ := hP
    have hD : va_D A [(tl, .inr (10, [.ref tls, .ref o0, .ref p0, .int x_tl_3, .int y_tl_466_4])), (o0, .inr (5, [.ref o0r, .int x_o0_1])), (o0r, .inl (ct 1, 60000, .inl k_o0r66_5))] := hD
    refine lv_aload_n hx hb dX10_turnRead_69 rfl (lv_at hl 2 rfl) ?_
    refine lv_bipush (v := 10) hx hb dX10_turnRead_70 (by decide) ?_
    refine lv_iconst (v := 0) hx hb dX10_turnRead_72 (by decide) ?_
    refine lv_iconst (v := 0) hx hb dX10_turnRead_73 (by decide) ?_
    refine go_v (k1 := 0) (n1 := 0) (wr := []) [0, 1, 2] [] (rn_V (As := [.int 10, .int 0, .int 0]) (rest := []) (c_X10_putAdd l D ct tl (10 : Int32) (0 : Int32) (0 : Int32) tls o0 p0 x_tl_3 y_tl_466_4 o0r x_o0_1 k_o0r66_5 h_x_tl_3 (rg_of (show 0 ≤ y_tl_466_4.toInt ∧ y_tl_466_4.toInt ≤ 999990 by have q0 := h_x_tl_4.1; have q1 := h_x_tl_4.2; have q2 := hp17_8; have q3 := hp40_7; have q4 := hp45_7; have q5 := hp54_7; have q6 := hp66_7; omega)) h_x_o0_1 _) (cb_of (n := 3) hn mw_1325 mw_10 mw_1322 mhX10_putAdd ⟨(Nat.le_of_ble_eq_true rfl), (Nat.le_of_ble_eq_true rfl)⟩) hx hb hml hown hn hK hSK hZ hS mw_1324 mw_s150 (ci := 10) (q0 := 0) rfl rfl rfl rfl hl.1 (Nat.le_of_ble_eq_true rfl) dX10_turnRead_74 ⟨(Nat.le_of_ble_eq_true rfl), (Nat.le_of_ble_eq_true rfl)⟩) hP hD hS hA rfl rfl (by decide) (by decide) (by decide) (Nat.le_of_ble_eq_true rfl) (Nat.le_of_ble_eq_true rfl) (fun u74_2 H locs hp74_3 hP hD hS => ?_)
    obtain ⟨y_tl_474_4, k_o0r74_5⟩ := u74_2
    obtain ⟨hp74_6, hp74_7⟩ := hp74_3
    have hp74_6 : rg y_tl_474_4 1 1000001 := hp74_6
    have hp74_7 : y_tl_474_4.toInt = y_tl_466_4.toInt + 1 := hp74_7
    have hP : va_P D vwCl [(tl, .inr (10, [.ref tls, .ref o0, .ref p0, .int x_tl_3, .int y_tl_474_4])), (o0, .inr (5, [.ref o0r, .int x_o0_1])), (o0r, .inl (ct 1, 60000, .inl k_o0r74_5))] _ := hP
    have hD : va_D A [(tl, .inr (10, [.ref tls, .ref o0, .ref p0, .int x_tl_3, .int y_tl_474_4])), (o0, .inr (5, [.ref o0r, .int x_o0_1])), (o0r, .inl (ct 1, 60000, .inl k_o0r74_5))] := hD
    refine lv_aload_n hx hb dX10_turnRead_77 rfl (lv_at hl 2 rfl) ?_
    refine lv_bipush (v := 115) hx hb dX10_turnRead_78 (by decide) ?_
    refine go_v (k1 := 0) (n1 := 0) (wr := []) [0, 1, 2] [] (rn_V (As := [.int 115]) (rest := []) (c_X10_put l D ct tl (115 : Int32) tls o0 p0 x_tl_3 y_tl_474_4 o0r x_o0_1 k_o0r74_5 h_x_tl_3 (rg_of (show 0 ≤ y_tl_474_4.toInt ∧ y_tl_474_4.toInt ≤ 1000000 by have q0 := h_x_tl_4.1; have q1 := h_x_tl_4.2; have q2 := hp17_8; have q3 := hp40_7; have q4 := hp45_7; have q5 := hp54_7; have q6 := hp66_7; have q7 := hp74_7; omega)) h_x_o0_1 _) (cb_of (n := 1) hn mw_1319 mw_10 mw_1316 mhX10_put ⟨(Nat.le_of_ble_eq_true rfl), (Nat.le_of_ble_eq_true rfl)⟩) hx hb hml hown hn hK hSK hZ hS mw_1318 mw_s149 (ci := 10) (q0 := 0) rfl rfl rfl rfl hl.1 (Nat.le_of_ble_eq_true rfl) dX10_turnRead_80 ⟨(Nat.le_of_ble_eq_true rfl), (Nat.le_of_ble_eq_true rfl)⟩) hP hD hS hA rfl rfl (by decide) (by decide) (by decide) (Nat.le_of_ble_eq_true rfl) (Nat.le_of_ble_eq_true rfl) (fun u80_2 H locs hp80_3 hP hD hS => ?_)
    obtain ⟨y_tl_480_4, k_o0r80_5⟩ := u80_2
    obtain ⟨hp80_6, hp80_7⟩ := hp80_3
    have hp80_6 : rg y_tl_480_4 1 1000001 := hp80_6
    have hp80_7 : y_tl_480_4.toInt = y_tl_474_4.toInt + 1 := hp80_7
    have hP : va_P D vwCl [(tl, .inr (10, [.ref tls, .ref o0, .ref p0, .int x_tl_3, .int y_tl_480_4])), (o0, .inr (5, [.ref o0r, .int x_o0_1])), (o0r, .inl (ct 1, 60000, .inl k_o0r80_5))] _ := hP
    have hD : va_D A [(tl, .inr (10, [.ref tls, .ref o0, .ref p0, .int x_tl_3, .int y_tl_480_4])), (o0, .inr (5, [.ref o0r, .int x_o0_1])), (o0r, .inl (ct 1, 60000, .inl k_o0r80_5))] := hD
    refine lv_aload_n hx hb dX10_turnRead_83 rfl (lv_at hl 2 rfl) ?_
    refine lv_bipush (v := 51) hx hb dX10_turnRead_84 (by decide) ?_
    refine lv_iconst (v := 0) hx hb dX10_turnRead_86 (by decide) ?_
    refine lv_iconst (v := 0) hx hb dX10_turnRead_87 (by decide) ?_
    refine lv_iconst (v := 5) hx hb dX10_turnRead_88 (by decide) ?_
    refine lv_iconst (v := 5) hx hb dX10_turnRead_89 (by decide) ?_
    refine lv_bipush (v := 8) hx hb dX10_turnRead_90 (by decide) ?_
    refine go_v (k1 := 0) (n1 := 0) (wr := []) [0, 1, 2] [] (rn_V (As := [.int 51, .int 0, .int 0, .int 5, .int 5, .int 8]) (rest := []) (c_X10_putOp l D ct tl (51 : Int32) (0 : Int32) (0 : Int32) (5 : Int32) (5 : Int32) (8 : Int32) tls o0 p0 x_tl_3 y_tl_480_4 o0r x_o0_1 k_o0r80_5 h_x_tl_3 (rg_of (show 0 ≤ y_tl_480_4.toInt ∧ y_tl_480_4.toInt ≤ 999990 by have q0 := h_x_tl_4.1; have q1 := h_x_tl_4.2; have q2 := hp17_8; have q3 := hp40_7; have q4 := hp45_7; have q5 := hp54_7; have q6 := hp66_7; have q7 := hp74_7; have q8 := hp80_7; omega)) h_x_o0_1 _) (cb_of (n := 6) hn mw_1329 mw_10 mw_1326 mhX10_putOp ⟨(Nat.le_of_ble_eq_true rfl), (Nat.le_of_ble_eq_true rfl)⟩) hx hb hml hown hn hK hSK hZ hS mw_1328 mw_s151 (ci := 10) (q0 := 0) rfl rfl rfl rfl hl.1 (Nat.le_of_ble_eq_true rfl) dX10_turnRead_92 ⟨(Nat.le_of_ble_eq_true rfl), (Nat.le_of_ble_eq_true rfl)⟩) hP hD hS hA rfl rfl (by decide) (by decide) (by decide) (Nat.le_of_ble_eq_true rfl) (Nat.le_of_ble_eq_true rfl) (fun u92_2 H locs hp92_3 hP hD hS => ?_)
    obtain ⟨y_tl_492_4, k_o0r92_5⟩ := u92_2
    obtain ⟨hp92_6, hp92_7⟩ := hp92_3
    have hp92_6 : rg y_tl_492_4 1 1000001 := hp92_6
    have hp92_7 : y_tl_492_4.toInt = y_tl_480_4.toInt + 1 := hp92_7
    have hP : va_P D vwCl [(tl, .inr (10, [.ref tls, .ref o0, .ref p0, .int x_tl_3, .int y_tl_492_4])), (o0, .inr (5, [.ref o0r, .int x_o0_1])), (o0r, .inl (ct 1, 60000, .inl k_o0r92_5))] _ := hP
    have hD : va_D A [(tl, .inr (10, [.ref tls, .ref o0, .ref p0, .int x_tl_3, .int y_tl_492_4])), (o0, .inr (5, [.ref o0r, .int x_o0_1])), (o0r, .inl (ct 1, 60000, .inl k_o0r92_5))] := hD
    refine lv_aload_n hx hb dX10_turnRead_95 rfl (lv_at hl 2 rfl) ?_
    refine lv_iconst (v := 3) hx hb dX10_turnRead_96 (by decide) ?_
    refine lv_iconst (v := 4) hx hb dX10_turnRead_97 (by decide) ?_
    refine lv_bipush (v := 10) hx hb dX10_turnRead_98 (by decide) ?_
    refine lv_iconst (v := 5) hx hb dX10_turnRead_100 (by decide) ?_
    refine lv_iconst (v := 0) hx hb dX10_turnRead_101 (by decide) ?_
    refine go_v (k1 := 0) (n1 := 0) (wr := []) [0, 1, 2] [] (rn_V (As := [.int 3, .int 4, .int 10, .int 5, .int 0]) (rest := []) (c_X10_putImm l D ct tl (3 : Int32) (4 : Int32) (10 : Int32) (5 : Int32) (0 : Int32) tls o0 p0 x_tl_3 y_tl_492_4 o0r x_o0_1 k_o0r92_5 h_x_tl_3 (rg_of (show 0 ≤ y_tl_492_4.toInt ∧ y_tl_492_4.toInt ≤ 999990 by have q0 := h_x_tl_4.1; have q1 := h_x_tl_4.2; have q2 := hp17_8; have q3 := hp40_7; have q4 := hp45_7; have q5 := hp54_7; have q6 := hp66_7; have q7 := hp74_7; have q8 := hp80_7; have q9 := hp92_7; omega)) h_x_o0_1 _) (cb_of (n := 5) hn mw_1341 mw_10 mw_1338 mhX10_putImm ⟨(Nat.le_of_ble_eq_true rfl), (Nat.le_of_ble_eq_true rfl)⟩) hx hb hml hown hn hK hSK hZ hS mw_1340 mw_s154 (ci := 10) (q0 := 0) rfl rfl rfl rfl hl.1 (Nat.le_of_ble_eq_true rfl) dX10_turnRead_102 ⟨(Nat.le_of_ble_eq_true rfl), (Nat.le_of_ble_eq_true rfl)⟩) hP hD hS hA rfl rfl (by decide) (by decide) (by decide) (Nat.le_of_ble_eq_true rfl) (Nat.le_of_ble_eq_true rfl) (fun u102_2 H locs hp102_3 hP hD hS => ?_)
    obtain ⟨y_tl_4102_4, k_o0r102_5⟩ := u102_2
    obtain ⟨hp102_6, hp102_7⟩ := hp102_3
    have hp102_6 : rg y_tl_4102_4 1 1000001 := hp102_6
    have hp102_7 : y_tl_4102_4.toInt = y_tl_492_4.toInt + 1 := hp102_7
    have hP : va_P D vwCl [(tl, .inr (10, [.ref tls, .ref o0, .ref p0, .int x_tl_3, .int y_tl_4102_4])), (o0, .inr (5, [.ref o0r, .int x_o0_1])), (o0r, .inl (ct 1, 60000, .inl k_o0r102_5))] _ := hP
    have hD : va_D A [(tl, .inr (10, [.ref tls, .ref o0, .ref p0, .int x_tl_3, .int y_tl_4102_4])), (o0, .inr (5, [.ref o0r, .int x_o0_1])), (o0r, .inl (ct 1, 60000, .inl k_o0r102_5))] := hD
    refine lv_iconst (v := 1) hx hb dX10_turnRead_105 (by decide) ?_
    refine lv_istore (lv' := [(5, .int 1), (4, .int r6_1), (3, .int r1_1), (0, .ref tl), (1, .long v0)]) hx hb dX10_turnRead_106 hl (by decide) rfl (fun ls hl => ?_)
    have b108 : ∀ (n108 : Nat) (j108_l5 : Int32) (j108_ftl_4 : Int32) (j108_co0r : Nat → Int32) (H : Heap) (locs : List Loc) (ls : Array Slot), (rg j108_l5 1 8) → (rg j108_ftl_4 1 1000001) → (j108_ftl_4.toInt + 3 * (r6_1.toInt - j108_l5.toInt) = x_tl_4.toInt + ((d : Nat) : Int)) → (1 ≤ j108_l5.toInt) → (j108_l5.toInt ≤ r6_1.toInt) → ((2147483647 : Int) - j108_l5.toInt).toNat < n108 → lv_has ls 6 [(0, .ref tl), (4, .int r6_1), (5, .int j108_l5)] → va_P D vwCl [(tl, .inr (10, [.ref tls, .ref o0, .ref p0, .int x_tl_3, .int j108_ftl_4])), (o0, .inr (5, [.ref o0r, .int x_o0_1])), (o0r, .inl (ct 1, 60000, .inl j108_co0r))] H → va_D A [(tl, .inr (10, [.ref tls, .ref o0, .ref p0, .int x_tl_3, .int j108_ftl_4])), (o0, .inr (5, [.ref o0r, .int x_o0_1])), (o0r, .inl (ct 1, 60000, .inl j108_co0r))] → va_S A s.heap H locs → W p l e ({ frames := 4, cells := 0, slots := 0, locals := 87 }) s m [.ref tl, .long v0].toArray below meth c H locs 0 0 Q (F0 m 108 ls []) := by
      intro n108
      induction n108 with
      | zero => intros; rename_i hms _ _ _ _; exact absurd hms (Nat.not_lt_zero _)
      | succ n108 ih108 =>
        intro j108_l5 j108_ftl_4 j108_co0r H locs ls r108_1001 r108_1002 hi108_1003 hi108_1004 hi108_1005 hms108 hl hP hD hS
        refine lv_iload hx hb dX10_turnRead_108 (lv_at hl 2 rfl) ?_
        refine lv_iload hx hb dX10_turnRead_110 (lv_at hl 1 rfl) ?_
        refine lv_icmp_ge (tgt := 160) hx hb dX10_turnRead_112 (by decide) (fun c112_1 => ?_) (fun c112_1 => ?_)
        · have t112_2 := (i_le c112_1)
          exact endq_v hQ hx hb hr hlocks dX10_turnRead_160 (j108_ftl_4, j108_co0r) ⟨r108_1002, (show j108_ftl_4.toInt = x_tl_4.toInt + ((d : Nat) : Int) by have q0 := hi108_1003; have q1 := hi108_1005; have q2 := t112_2; omega)⟩ hP hD hS [0, 1, 2] rfl (by decide) rfl (Nat.le_of_ble_eq_true rfl) (Nat.le_of_ble_eq_true rfl)
        · have t112_2 := (i_nle c112_1)
          have r112_3 : rg j108_l5 1 7 := rg_ltA t112_2 r108_1001 hp6_4 (by decide)
          have r112_4 : rg r6_1 2 8 := rg_ltB t112_2 r108_1001 hp6_4 (by decide)
          refine lv_aload_n hx hb dX10_turnRead_115 rfl (lv_at hl 0 rfl) ?_
          refine lv_bipush (v := 19) hx hb dX10_turnRead_116 (by decide) ?_
          refine lv_iconst (v := 1) hx hb dX10_turnRead_118 (by decide) ?_
          refine lv_bipush (v := 10) hx hb dX10_turnRead_119 (by decide) ?_
          refine lv_bipush (v := 10) hx hb dX10_turnRead_121 (by decide) ?_
          refine lv_bipush (v := 8) hx hb dX10_turnRead_123 (by decide) ?_
          refine go_v (k1 := 0) (n1 := 0) (wr := []) [0, 1, 2] [] (rn_V (As := [.int 19, .int 1, .int 10, .int 10, .int 8]) (rest := []) (c_X10_putImm l D ct tl (19 : Int32) (1 : Int32) (10 : Int32) (10 : Int32) (8 : Int32) tls o0 p0 x_tl_3 j108_ftl_4 o0r x_o0_1 j108_co0r h_x_tl_3 (rg_of (show 0 ≤ j108_ftl_4.toInt ∧ j108_ftl_4.toInt ≤ 999990 by have q0 := r108_1002.1; have q1 := h_x_tl_4.2; have q2 := r23_3.1; have q3 := hk0_3; have q4 := hk0_4; have q5 := hk0_6; have q6 := hk0_11; have q7 := hk0_12; have q8 := hk0_14; have q9 := hk4_1; have q10 := hp6_5; have q11 := hp6_6; have q12 := hp6_7; have q13 := hp6_8; have q14 := hk17_1; have q15 := hp17_9; have q16 := hp17_10; have q17 := hi108_1003; have q18 := hi108_1004; have q19 := hi108_1005; have q20 := t112_2; omega)) h_x_o0_1 _) (cb_of (n := 5) hn mw_1341 mw_10 mw_1338 mhX10_putImm ⟨(Nat.le_of_ble_eq_true rfl), (Nat.le_of_ble_eq_true rfl)⟩) hx hb hml hown hn hK hSK hZ hS mw_1340 mw_s154 (ci := 10) (q0 := 0) rfl rfl rfl rfl hl.1 (Nat.le_of_ble_eq_true rfl) dX10_turnRead_125 ⟨(Nat.le_of_ble_eq_true rfl), (Nat.le_of_ble_eq_true rfl)⟩) hP hD hS hA rfl rfl (by decide) (by decide) (by decide) (Nat.le_of_ble_eq_true rfl) (Nat.le_of_ble_eq_true rfl) (fun u125_2 H locs hp125_3 hP hD hS => ?_)
          obtain ⟨y_tl_4125_4, k_o0r125_5⟩ := u125_2
          obtain ⟨hp125_6, hp125_7⟩ := hp125_3
          have hp125_6 : rg y_tl_4125_4 1 1000001 := hp125_6
          have hp125_7 : y_tl_4125_4.toInt = j108_ftl_4.toInt + 1 := hp125_7
          have hP : va_P D vwCl [(tl, .inr (10, [.ref tls, .ref o0, .ref p0, .int x_tl_3, .int y_tl_4125_4])), (o0, .inr (5, [.ref o0r, .int x_o0_1])), (o0r, .inl (ct 1, 60000, .inl k_o0r125_5))] _ := hP
          have hD : va_D A [(tl, .inr (10, [.ref tls, .ref o0, .ref p0, .int x_tl_3, .int y_tl_4125_4])), (o0, .inr (5, [.ref o0r, .int x_o0_1])), (o0r, .inl (ct 1, 60000, .inl k_o0r125_5))] := hD
          refine lv_aload_n hx hb dX10_turnRead_128 rfl (lv_at hl 0 rfl) ?_
          refine lv_iconst (v := 3) hx hb dX10_turnRead_129 (by decide) ?_
          refine lv_iconst (v := 4) hx hb dX10_turnRead_130 (by decide) ?_
          refine lv_bipush (v := 6) hx hb dX10_turnRead_131 (by decide) ?_
          refine lv_iconst (v := 5) hx hb dX10_turnRead_133 (by decide) ?_
          refine lv_iload hx hb dX10_turnRead_134 (lv_at hl 2 rfl) ?_
          refine go_v (k1 := 0) (n1 := 0) (wr := []) [0, 1, 2] [] (rn_V (As := [.int 3, .int 4, .int 6, .int 5, .int j108_l5]) (rest := []) (c_X10_putImm l D ct tl (3 : Int32) (4 : Int32) (6 : Int32) (5 : Int32) j108_l5 tls o0 p0 x_tl_3 y_tl_4125_4 o0r x_o0_1 k_o0r125_5 h_x_tl_3 (rg_of (show 0 ≤ y_tl_4125_4.toInt ∧ y_tl_4125_4.toInt ≤ 999990 by have q0 := r108_1002.1; have q1 := h_x_tl_4.2; have q2 := r23_3.1; have q3 := hk0_3; have q4 := hk0_4; have q5 := hk0_6; have q6 := hk0_11; have q7 := hk0_12; have q8 := hk0_14; have q9 := hk4_1; have q10 := hp6_5; have q11 := hp6_6; have q12 := hp6_7; have q13 := hp6_8; have q14 := hk17_1; have q15 := hp17_9; have q16 := hp17_10; have q17 := hi108_1003; have q18 := hi108_1004; have q19 := hi108_1005; have q20 := t112_2; have q21 := hp125_7; omega)) h_x_o0_1 _) (cb_of (n := 5) hn mw_1341 mw_10 mw_1338 mhX10_putImm ⟨(Nat.le_of_ble_eq_true rfl), (Nat.le_of_ble_eq_true rfl)⟩) hx hb hml hown hn hK hSK hZ hS mw_1340 mw_s154 (ci := 10) (q0 := 0) rfl rfl rfl rfl hl.1 (Nat.le_of_ble_eq_true rfl) dX10_turnRead_136 ⟨(Nat.le_of_ble_eq_true rfl), (Nat.le_of_ble_eq_true rfl)⟩) hP hD hS hA rfl rfl (by decide) (by decide) (by decide) (Nat.le_of_ble_eq_true rfl) (Nat.le_of_ble_eq_true rfl) (fun u136_2 H locs hp136_3 hP hD hS => ?_)
          obtain ⟨y_tl_4136_4, k_o0r136_5⟩ := u136_2
          obtain ⟨hp136_6, hp136_7⟩ := hp136_3
          have hp136_6 : rg y_tl_4136_4 1 1000001 := hp136_6
          have hp136_7 : y_tl_4136_4.toInt = y_tl_4125_4.toInt + 1 := hp136_7
          have hP : va_P D vwCl [(tl, .inr (10, [.ref tls, .ref o0, .ref p0, .int x_tl_3, .int y_tl_4136_4])), (o0, .inr (5, [.ref o0r, .int x_o0_1])), (o0r, .inl (ct 1, 60000, .inl k_o0r136_5))] _ := hP
          have hD : va_D A [(tl, .inr (10, [.ref tls, .ref o0, .ref p0, .int x_tl_3, .int y_tl_4136_4])), (o0, .inr (5, [.ref o0r, .int x_o0_1])), (o0r, .inl (ct 1, 60000, .inl k_o0r136_5))] := hD
          refine lv_aload_n hx hb dX10_turnRead_139 rfl (lv_at hl 0 rfl) ?_
          refine lv_bipush (v := 51) hx hb dX10_turnRead_140 (by decide) ?_
          refine lv_iconst (v := 0) hx hb dX10_turnRead_142 (by decide) ?_
          refine lv_bipush (v := 6) hx hb dX10_turnRead_143 (by decide) ?_
          refine lv_bipush (v := 10) hx hb dX10_turnRead_145 (by decide) ?_
          refine lv_bipush (v := 10) hx hb dX10_turnRead_147 (by decide) ?_
          refine lv_bipush (v := 6) hx hb dX10_turnRead_149 (by decide) ?_
          refine go_v (k1 := 0) (n1 := 0) (wr := []) [0, 1, 2] [] (rn_V (As := [.int 51, .int 0, .int 6, .int 10, .int 10, .int 6]) (rest := []) (c_X10_putOp l D ct tl (51 : Int32) (0 : Int32) (6 : Int32) (10 : Int32) (10 : Int32) (6 : Int32) tls o0 p0 x_tl_3 y_tl_4136_4 o0r x_o0_1 k_o0r136_5 h_x_tl_3 (rg_of (show 0 ≤ y_tl_4136_4.toInt ∧ y_tl_4136_4.toInt ≤ 999990 by have q0 := r108_1002.1; have q1 := h_x_tl_4.2; have q2 := r23_3.1; have q3 := hk0_3; have q4 := hk0_4; have q5 := hk0_6; have q6 := hk0_11; have q7 := hk0_12; have q8 := hk0_14; have q9 := hk4_1; have q10 := hp6_5; have q11 := hp6_6; have q12 := hp6_7; have q13 := hp6_8; have q14 := hk17_1; have q15 := hp17_9; have q16 := hp17_10; have q17 := hi108_1003; have q18 := hi108_1004; have q19 := hi108_1005; have q20 := t112_2; have q21 := hp125_7; have q22 := hp136_7; omega)) h_x_o0_1 _) (cb_of (n := 6) hn mw_1329 mw_10 mw_1326 mhX10_putOp ⟨(Nat.le_of_ble_eq_true rfl), (Nat.le_of_ble_eq_true rfl)⟩) hx hb hml hown hn hK hSK hZ hS mw_1328 mw_s151 (ci := 10) (q0 := 0) rfl rfl rfl rfl hl.1 (Nat.le_of_ble_eq_true rfl) dX10_turnRead_151 ⟨(Nat.le_of_ble_eq_true rfl), (Nat.le_of_ble_eq_true rfl)⟩) hP hD hS hA rfl rfl (by decide) (by decide) (by decide) (Nat.le_of_ble_eq_true rfl) (Nat.le_of_ble_eq_true rfl) (fun u151_2 H locs hp151_3 hP hD hS => ?_)
          obtain ⟨y_tl_4151_4, k_o0r151_5⟩ := u151_2
          obtain ⟨hp151_6, hp151_7⟩ := hp151_3
          have hp151_6 : rg y_tl_4151_4 1 1000001 := hp151_6
          have hp151_7 : y_tl_4151_4.toInt = y_tl_4136_4.toInt + 1 := hp151_7
          have hP : va_P D vwCl [(tl, .inr (10, [.ref tls, .ref o0, .ref p0, .int x_tl_3, .int y_tl_4151_4])), (o0, .inr (5, [.ref o0r, .int x_o0_1])), (o0r, .inl (ct 1, 60000, .inl k_o0r151_5))] _ := hP
          have hD : va_D A [(tl, .inr (10, [.ref tls, .ref o0, .ref p0, .int x_tl_3, .int y_tl_4151_4])), (o0, .inr (5, [.ref o0r, .int x_o0_1])), (o0r, .inl (ct 1, 60000, .inl k_o0r151_5))] := hD
          obtain ⟨x154_1, ex154_1⟩ : ∃ z : Int32, z = j108_l5 + 1 := ⟨_, rfl⟩
          have r154_2 : rg x154_1 2 8 := rg_add ex154_1 r112_3 (show rg (1 : Int32) 1 1 from rg_l (by decide)) (by decide)
          refine lv_iinc (v := x154_1) (lv' := [(5, .int x154_1), (0, .ref tl), (4, .int r6_1)]) hx hb dX10_turnRead_154 hl (k := 2) rfl (by rw [ex154_1]; rfl) (by decide) rfl (fun ls hl => ?_)
          refine lv_goto (tgt := 108) hx hb dX10_turnRead_157 (by decide) ?_
          exact ih108 x154_1 y_tl_4151_4 k_o0r151_5 H locs ls (rg_w r154_2 (by decide)) hp151_6 (show y_tl_4151_4.toInt + 3 * (r6_1.toInt - x154_1.toInt) = x_tl_4.toInt + ((d : Nat) : Int) by have q0 := (eq_add ex154_1 r112_3 (show rg (1 : Int32) 1 1 from rg_l (by decide)) (by decide)); have q1 := hi108_1003; have q2 := hp125_7; have q3 := hp136_7; have q4 := hp151_7; have q5 := (show (1 : Int32).toInt = 1 from by decide); omega) (show 1 ≤ x154_1.toInt by have q0 := (eq_add ex154_1 r112_3 (show rg (1 : Int32) 1 1 from rg_l (by decide)) (by decide)); have q1 := hi108_1004; have q2 := (show (1 : Int32).toInt = 1 from by decide); omega) (show x154_1.toInt ≤ r6_1.toInt by have q0 := (eq_add ex154_1 r112_3 (show rg (1 : Int32) 1 1 from rg_l (by decide)) (by decide)); have q1 := t112_2; have q2 := (show (1 : Int32).toInt = 1 from by decide); omega) (show ((2147483647 : Int) - x154_1.toInt).toNat < n108 by have q0 := r112_3.2; have q1 := (eq_add ex154_1 r112_3 (show rg (1 : Int32) 1 1 from rg_l (by decide)) (by decide)); have q2 := (show (1 : Int32).toInt = 1 from by decide); have q3 := hms108; omega) (lv_sub hl [1, 2, 0] rfl) hP hD hS
    exact b108 _ (1 : Int32) y_tl_4102_4 k_o0r102_5 H locs ls (rg_w (show rg (1 : Int32) 1 1 from rg_l (by decide)) (by decide)) hp102_6 (show y_tl_4102_4.toInt + 3 * (r6_1.toInt - (1 : Int32).toInt) = x_tl_4.toInt + ((d : Nat) : Int) by have q0 := hp6_4.1; have q1 := hp6_4.2; have q2 := r23_3.1; have q3 := hk0_3; have q4 := hk0_4; have q5 := hk0_5; have q6 := hk0_6; have q7 := hk0_11; have q8 := hk0_12; have q9 := hk0_13; have q10 := hk0_14; have q11 := hk4_1; have q12 := hp6_5; have q13 := hp6_6; have q14 := hp6_7; have q15 := hp6_8; have q16 := hk17_1; have q17 := hp17_8; have q18 := hp17_9; have q19 := hp17_10; have q20 := hp40_7; have q21 := hp45_7; have q22 := hp54_7; have q23 := hp66_7; have q24 := hp74_7; have q25 := hp80_7; have q26 := hp92_7; have q27 := hp102_7; have q28 := (show (1 : Int32).toInt = 1 from by decide); omega) (show 1 ≤ (1 : Int32).toInt by have q0 := (show (1 : Int32).toInt = 1 from by decide); omega) (show (1 : Int32).toInt ≤ r6_1.toInt by have q0 := hp6_4.1; have q1 := (show (1 : Int32).toInt = 1 from by decide); omega) (Nat.lt_succ_self _) (lv_sub hl [3, 1, 0] rfl) hP hD hS
set_option maxHeartbeats 2000000 in
theorem c_X10_turnMemory_w (l : Launch) (D : va_G) (ct : Nat → ClassId) (d : Nat) (cc : Int32) (kk : Int32) (oo : Int32) (tl : Nat) (v0 : Int64) (tls : Nat) (o0 : Nat) (p0 : Nat) (x_tl_3 : Int32) (x_tl_4 : Int32) (o0r : Nat) (x_o0_1 : Int32) (g_o0r : Nat → Int32) (h_x_tl_3 : rg x_tl_3 0 1) (h_x_tl_4 : rg x_tl_4 0 999800) (h_x_o0_1 : rg x_o0_1 0 60000) (hq0 : cc.toInt = v0.toInt % 256) (hq1 : kk.toInt = v0.toInt / 4294967296) (hq2 : oo.toInt = (v0.toInt / 65536 + 32768) % 65536 - 32768) (hg0 : TWmem cc.toInt kk.toInt oo.toInt d) : KV (S := Int32 × (Nat → Int32)) l yX10_turnMemory cX10_turnMemory 8 none 3 67 D ct [.ref tl, .long v0] [(tl, .inr (10, [.ref tls, .ref o0, .ref p0, .int x_tl_3, .int x_tl_4])), (o0, .inr (5, [.ref o0r, .int x_o0_1])), (o0r, .inl (ct 1, 60000, .inl g_o0r))] 0 0 (fun (u : Int32 × (Nat → Int32)) => match u with | (y_tl_4, k_o0r) => rg y_tl_4 1 1000001 ∧ (x_tl_4.toInt + 3 ≤ y_tl_4.toInt ∧ y_tl_4.toInt ≤ x_tl_4.toInt + 6) ∧ (y_tl_4.toInt = x_tl_4.toInt + ((d : Nat) : Int))) (fun (u : Int32 × (Nat → Int32)) => match u with | (y_tl_4, k_o0r) => [(tl, .inr (10, [.ref tls, .ref o0, .ref p0, .int x_tl_3, .int y_tl_4])), (o0, .inr (5, [.ref o0r, .int x_o0_1])), (o0r, .inl (ct 1, 60000, .inl k_o0r))]) := by
  refine KVq_of (by decide) (Nat.le_of_ble_eq_true rfl) (fun p e s m below meth c A Q C0 hA H locs hS hP hD hQ ls hl => ?_)
  obtain ⟨hx, hb, hr, hown, hin, hml, hlocks, hn, hK, hZ, hSK⟩ := C0
  have hl : lv_has ls 8 [(0, .ref tl), (1, .long v0)] := hl
  obtain ⟨tw0_1_0, tw0_1_1, tw0_1_2, tw0_1_3, tw0_1_4, tw0_1_5⟩ := hg0
  have hk0_2 : (-2048 ≤ kk.toInt ∧ kk.toInt ≤ 2047) ∨ (kk.toInt < -2048 ∨ 2047 < kk.toInt) := FF.mk (by omega)
  have hk0_3 : (-2048 ≤ oo.toInt ∧ oo.toInt ≤ 2047) ∨ (oo.toInt < -2048 ∨ 2047 < oo.toInt) := FF.mk (by omega)
  have hk0_4 : (-2048 ≤ oo.toInt ∧ oo.toInt ≤ 2047) ∧ ((cc.toInt = 97 ∨ cc.toInt = 105 ∨ cc.toInt = 113 ∨ cc.toInt = 121) ∨ cc.toInt % 2 = 1) → ((d : Nat) : Int) = 3 := FF.mk tw0_1_0
  have hk0_5 : (-2048 ≤ oo.toInt ∧ oo.toInt ≤ 2047) ∧ (-2048 ≤ kk.toInt ∧ kk.toInt ≤ 2047) ∧ ¬ (cc.toInt = 97 ∨ cc.toInt = 105 ∨ cc.toInt = 113 ∨ cc.toInt = 121) ∧ cc.toInt % 2 = 0 → ((d : Nat) : Int) = 4 := FF.mk tw0_1_1
  have hk0_6 : (-2048 ≤ oo.toInt ∧ oo.toInt ≤ 2047) ∧ (kk.toInt < -2048 ∨ 2047 < kk.toInt) ∧ ¬ (cc.toInt = 97 ∨ cc.toInt = 105 ∨ cc.toInt = 113 ∨ cc.toInt = 121) ∧ cc.toInt % 2 = 0 → ((d : Nat) : Int) = 5 := FF.mk tw0_1_2
  have hk0_7 : (oo.toInt < -2048 ∨ 2047 < oo.toInt) ∧ ((cc.toInt = 97 ∨ cc.toInt = 105 ∨ cc.toInt = 113 ∨ cc.toInt = 121) ∨ cc.toInt % 2 = 1) → ((d : Nat) : Int) = 4 := FF.mk tw0_1_3
  have hk0_8 : (oo.toInt < -2048 ∨ 2047 < oo.toInt) ∧ (-2048 ≤ kk.toInt ∧ kk.toInt ≤ 2047) ∧ ¬ (cc.toInt = 97 ∨ cc.toInt = 105 ∨ cc.toInt = 113 ∨ cc.toInt = 121) ∧ cc.toInt % 2 = 0 → ((d : Nat) : Int) = 5 := FF.mk tw0_1_4
  have hk0_9 : (oo.toInt < -2048 ∨ 2047 < oo.toInt) ∧ (kk.toInt < -2048 ∨ 2047 < kk.toInt) ∧ ¬ (cc.toInt = 97 ∨ cc.toInt = 105 ∨ cc.toInt = 113 ∨ cc.toInt = 121) ∧ cc.toInt % 2 = 0 → ((d : Nat) : Int) = 6 := FF.mk tw0_1_5
  refine lv_lload_n hx hb dX10_turnMemory_0 rfl (lv_at hl 1 rfl) ?_
  refine go_i (k1 := 0) (n1 := 0) (wr := [(tl, .inr (10, [.ref tls, .ref o0, .ref p0, .int x_tl_3, .int x_tl_4])), (o0, .inr (5, [.ref o0r, .int x_o0_1])), (o0r, .inl (ct 1, 60000, .inl g_o0r))]) [] [0, 1, 2] (rn_SN (As := [.long v0]) (rest := []) (c_X7_codeOf l D ct v0  _) (cn_of (n := 1) hn mw_956 mw_7 mw_1299 mhX7_codeOf ⟨(Nat.le_of_ble_eq_true rfl), (Nat.le_of_ble_eq_true rfl)⟩) hx hb hml hown hn hK hSK hZ hS mw_955 rfl hl.1 (Nat.le_of_ble_eq_true rfl) dX10_turnMemory_1 ⟨(Nat.le_of_ble_eq_true rfl), (Nat.le_of_ble_eq_true rfl)⟩) hP hD hS hA rfl rfl (by decide) (by decide) (by decide) (Nat.le_of_ble_eq_true rfl) (Nat.le_of_ble_eq_true rfl) (fun r1_1 u1_2 H locs hp1_3 hP hD hS => ?_)
  obtain ⟨hp1_4, hp1_5⟩ := hp1_3
  have hp1_4 : rg r1_1 0 255 := hp1_4
  have hp1_5 : r1_1.toInt = v0.toInt % 256 := hp1_5
  have hP : va_P D vwCl [(tl, .inr (10, [.ref tls, .ref o0, .ref p0, .int x_tl_3, .int x_tl_4])), (o0, .inr (5, [.ref o0r, .int x_o0_1])), (o0r, .inl (ct 1, 60000, .inl g_o0r))] _ := hP
  have hD : va_D A [(tl, .inr (10, [.ref tls, .ref o0, .ref p0, .int x_tl_3, .int x_tl_4])), (o0, .inr (5, [.ref o0r, .int x_o0_1])), (o0r, .inl (ct 1, 60000, .inl g_o0r))] := hD
  have hk4_1 : r1_1.toInt = cc.toInt := FF.mk (by have h1 := FF.out hq0; have h2 := FF.out hp1_5; omega)
  refine lv_istore_n (lv' := [(3, .int r1_1), (0, .ref tl), (1, .long v0)]) hx hb dX10_turnMemory_4 rfl hl (by decide) rfl (fun ls hl => ?_)
  refine lv_iload_n hx hb dX10_turnMemory_5 rfl (lv_at hl 0 rfl) ?_
  refine go_i (k1 := 0) (n1 := 0) (wr := [(tl, .inr (10, [.ref tls, .ref o0, .ref p0, .int x_tl_3, .int x_tl_4])), (o0, .inr (5, [.ref o0r, .int x_o0_1])), (o0r, .inl (ct 1, 60000, .inl g_o0r))]) [] [0, 1, 2] (rn_SN (As := [.int r1_1]) (rest := []) (c_X7_isLoad_w l D ct r1_1 hp1_4 _) (cn_of (n := 1) hn mw_977 mw_7 mw_1379 mhX7_isLoad ⟨(Nat.le_of_ble_eq_true rfl), (Nat.le_of_ble_eq_true rfl)⟩) hx hb hml hown hn hK hSK hZ hS mw_976 rfl hl.1 (Nat.le_of_ble_eq_true rfl) dX10_turnMemory_6 ⟨(Nat.le_of_ble_eq_true rfl), (Nat.le_of_ble_eq_true rfl)⟩) hP hD hS hA rfl rfl (by decide) (by decide) (by decide) (Nat.le_of_ble_eq_true rfl) (Nat.le_of_ble_eq_true rfl) (fun r6_1 u6_2 H locs hp6_3 hP hD hS => ?_)
  obtain ⟨hp6_4, hp6_5, hp6_6⟩ := hp6_3
  have hp6_4 : rg r6_1 0 1 := hp6_4
  have hp6_5 : r6_1.toInt = 1 → (r1_1.toInt = 97 ∨ r1_1.toInt = 105 ∨ r1_1.toInt = 113 ∨ r1_1.toInt = 121) := hp6_5
  have hp6_6 : r6_1.toInt = 0 → ¬ (r1_1.toInt = 97 ∨ r1_1.toInt = 105 ∨ r1_1.toInt = 113 ∨ r1_1.toInt = 121) := hp6_6
  have hP : va_P D vwCl [(tl, .inr (10, [.ref tls, .ref o0, .ref p0, .int x_tl_3, .int x_tl_4])), (o0, .inr (5, [.ref o0r, .int x_o0_1])), (o0r, .inl (ct 1, 60000, .inl g_o0r))] _ := hP
  have hD : va_D A [(tl, .inr (10, [.ref tls, .ref o0, .ref p0, .int x_tl_3, .int x_tl_4])), (o0, .inr (5, [.ref o0r, .int x_o0_1])), (o0r, .inl (ct 1, 60000, .inl g_o0r))] := hD
  refine lv_istore (lv' := [(4, .int r6_1), (3, .int r1_1), (0, .ref tl), (1, .long v0)]) hx hb dX10_turnMemory_9 hl (by decide) rfl (fun ls hl => ?_)
  refine lv_iload_n hx hb dX10_turnMemory_11 rfl (lv_at hl 1 rfl) ?_
  refine go_i (k1 := 0) (n1 := 0) (wr := [(tl, .inr (10, [.ref tls, .ref o0, .ref p0, .int x_tl_3, .int x_tl_4])), (o0, .inr (5, [.ref o0r, .int x_o0_1])), (o0r, .inl (ct 1, 60000, .inl g_o0r))]) [] [0, 1, 2] (rn_SN (As := [.int r1_1]) (rest := []) (c_X7_sizeOf_w l D ct r1_1 hp1_4 _) (cn_of (n := 1) hn mw_1150 mw_7 mw_1374 mhX7_sizeOf ⟨(Nat.le_of_ble_eq_true rfl), (Nat.le_of_ble_eq_true rfl)⟩) hx hb hml hown hn hK hSK hZ hS mw_1149 rfl hl.1 (Nat.le_of_ble_eq_true rfl) dX10_turnMemory_12 ⟨(Nat.le_of_ble_eq_true rfl), (Nat.le_of_ble_eq_true rfl)⟩) hP hD hS hA rfl rfl (by decide) (by decide) (by decide) (Nat.le_of_ble_eq_true rfl) (Nat.le_of_ble_eq_true rfl) (fun r12_1 u12_2 H locs hp12_3 hP hD hS => ?_)
  obtain ⟨hp12_4, hp12_5, hp12_6, hp12_7, hp12_8⟩ := hp12_3
  have hp12_4 : rg r12_1 1 8 := hp12_4
  have hp12_5 : (r1_1.toInt / 8) % 4 = 0 → r12_1.toInt = 4 := hp12_5
  have hp12_6 : (r1_1.toInt / 8) % 4 = 1 → r12_1.toInt = 2 := hp12_6
  have hp12_7 : (r1_1.toInt / 8) % 4 = 2 → r12_1.toInt = 1 := hp12_7
  have hp12_8 : (r1_1.toInt / 8) % 4 = 3 → r12_1.toInt = 8 := hp12_8
  have hP : va_P D vwCl [(tl, .inr (10, [.ref tls, .ref o0, .ref p0, .int x_tl_3, .int x_tl_4])), (o0, .inr (5, [.ref o0r, .int x_o0_1])), (o0r, .inl (ct 1, 60000, .inl g_o0r))] _ := hP
  have hD : va_D A [(tl, .inr (10, [.ref tls, .ref o0, .ref p0, .int x_tl_3, .int x_tl_4])), (o0, .inr (5, [.ref o0r, .int x_o0_1])), (o0r, .inl (ct 1, 60000, .inl g_o0r))] := hD
  refine lv_istore (lv' := [(5, .int r12_1), (4, .int r6_1), (3, .int r1_1), (0, .ref tl), (1, .long v0)]) hx hb dX10_turnMemory_15 hl (by decide) rfl (fun ls hl => ?_)
  refine lv_iload hx hb dX10_turnMemory_17 (lv_at hl 1 rfl) ?_
  refine lv_if_eq (tgt := 29) hx hb dX10_turnMemory_19 (by decide) (fun c19_1 => ?_) (fun c19_1 => ?_)
  · have t19_2 := (i_eq c19_1)
    have r19_3 : rg r6_1 0 0 := rg_eqA t19_2 hp6_4 (show rg (0 : Int32) 0 0 from rg_l (by decide)) (by decide)
    refine lv_lload_n hx hb dX10_turnMemory_29 rfl (lv_at hl 4 rfl) ?_
    refine go_i (k1 := 0) (n1 := 0) (wr := [(tl, .inr (10, [.ref tls, .ref o0, .ref p0, .int x_tl_3, .int x_tl_4])), (o0, .inr (5, [.ref o0r, .int x_o0_1])), (o0r, .inl (ct 1, 60000, .inl g_o0r))]) [] [0, 1, 2] (rn_SN (As := [.long v0]) (rest := []) (c_X7_dOf l D ct v0  _) (cn_of (n := 1) hn mw_986 mw_7 mw_1305 mhX7_dOf ⟨(Nat.le_of_ble_eq_true rfl), (Nat.le_of_ble_eq_true rfl)⟩) hx hb hml hown hn hK hSK hZ hS mw_985 rfl hl.1 (Nat.le_of_ble_eq_true rfl) dX10_turnMemory_30 ⟨(Nat.le_of_ble_eq_true rfl), (Nat.le_of_ble_eq_true rfl)⟩) hP hD hS hA rfl rfl (by decide) (by decide) (by decide) (Nat.le_of_ble_eq_true rfl) (Nat.le_of_ble_eq_true rfl) (fun r30_1 u30_2 H locs hp30_3 hP hD hS => ?_)
    obtain ⟨hp30_4, hp30_5⟩ := hp30_3
    have hp30_4 : rg r30_1 0 15 := hp30_4
    have hp30_5 : r30_1.toInt = (v0.toInt / 256) % 16 := hp30_5
    have hP : va_P D vwCl [(tl, .inr (10, [.ref tls, .ref o0, .ref p0, .int x_tl_3, .int x_tl_4])), (o0, .inr (5, [.ref o0r, .int x_o0_1])), (o0r, .inl (ct 1, 60000, .inl g_o0r))] _ := hP
    have hD : va_D A [(tl, .inr (10, [.ref tls, .ref o0, .ref p0, .int x_tl_3, .int x_tl_4])), (o0, .inr (5, [.ref o0r, .int x_o0_1])), (o0r, .inl (ct 1, 60000, .inl g_o0r))] := hD
    refine lv_istore (lv' := [(6, .int r30_1), (5, .int r12_1), (4, .int r6_1), (3, .int r1_1), (0, .ref tl), (1, .long v0)]) hx hb dX10_turnMemory_33 hl (by decide) rfl (fun ls hl => ?_)
    refine lv_iload hx hb dX10_turnMemory_35 (lv_at hl 1 rfl) ?_
    refine lv_bipush (v := 8) hx hb dX10_turnMemory_37 (by decide) ?_
    refine lv_icmp_ne (tgt := 46) hx hb dX10_turnMemory_39 (by decide) (fun c39_1 => ?_) (fun c39_1 => ?_)
    · have t39_2 := (i_ne c39_1)
      have r39_3 : rg r12_1 1 7 := rg_neAh t39_2 hp12_4 (show rg (8 : Int32) 8 8 from rg_l (by decide)) (by decide)
      refine lv_iload hx hb dX10_turnMemory_46 (lv_at hl 1 rfl) ?_
      refine lv_iconst (v := 4) hx hb dX10_turnMemory_48 (by decide) ?_
      refine lv_icmp_ne (tgt := 56) hx hb dX10_turnMemory_49 (by decide) (fun c49_1 => ?_) (fun c49_1 => ?_)
      · have t49_2 := (i_ne c49_1)
        refine lv_iload hx hb dX10_turnMemory_56 (lv_at hl 1 rfl) ?_
        refine lv_iconst (v := 2) hx hb dX10_turnMemory_58 (by decide) ?_
        refine lv_icmp_ne (tgt := 66) hx hb dX10_turnMemory_59 (by decide) (fun c59_1 => ?_) (fun c59_1 => ?_)
        · have t59_2 := (i_ne c59_1)
          refine lv_iconst (v := 0) hx hb dX10_turnMemory_66 (by decide) ?_
          refine lv_istore (lv' := [(7, .int 0), (6, .int r30_1), (5, .int r12_1), (4, .int r6_1), (3, .int r1_1), (0, .ref tl), (1, .long v0)]) hx hb dX10_turnMemory_67 hl (by decide) rfl (fun ls hl => ?_)
          refine lv_aload_n hx hb dX10_turnMemory_69 rfl (lv_at hl 5 rfl) ?_
          refine lv_iconst (v := 5) hx hb dX10_turnMemory_70 (by decide) ?_
          refine lv_lload_n hx hb dX10_turnMemory_71 rfl (lv_at hl 6 rfl) ?_
          refine go_i (k1 := 0) (n1 := 0) (wr := [(tl, .inr (10, [.ref tls, .ref o0, .ref p0, .int x_tl_3, .int x_tl_4])), (o0, .inr (5, [.ref o0r, .int x_o0_1])), (o0r, .inl (ct 1, 60000, .inl g_o0r))]) [] [0, 1, 2] (rn_SN (As := [.long v0]) (rest := [.int 5, .ref tl]) (c_X7_offOf_w l D ct v0  _) (cn_of (n := 1) hn mw_992 mw_7 mw_1368 mhX7_offOf ⟨(Nat.le_of_ble_eq_true rfl), (Nat.le_of_ble_eq_true rfl)⟩) hx hb hml hown hn hK hSK hZ hS mw_991 rfl hl.1 (Nat.le_of_ble_eq_true rfl) dX10_turnMemory_72 ⟨(Nat.le_of_ble_eq_true rfl), (Nat.le_of_ble_eq_true rfl)⟩) hP hD hS hA rfl rfl (by decide) (by decide) (by decide) (Nat.le_of_ble_eq_true rfl) (Nat.le_of_ble_eq_true rfl) (fun r72_1 u72_2 H locs hp72_3 hP hD hS => ?_)
          obtain ⟨hp72_4, hp72_5⟩ := hp72_3
          have hp72_4 : rg r72_1 (-32768) 32767 := hp72_4
          have hp72_5 : r72_1.toInt = (v0.toInt / 65536 + 32768) % 65536 - 32768 := hp72_5
          have hP : va_P D vwCl [(tl, .inr (10, [.ref tls, .ref o0, .ref p0, .int x_tl_3, .int x_tl_4])), (o0, .inr (5, [.ref o0r, .int x_o0_1])), (o0r, .inl (ct 1, 60000, .inl g_o0r))] _ := hP
          have hD : va_D A [(tl, .inr (10, [.ref tls, .ref o0, .ref p0, .int x_tl_3, .int x_tl_4])), (o0, .inr (5, [.ref o0r, .int x_o0_1])), (o0r, .inl (ct 1, 60000, .inl g_o0r))] := hD
          have hk75_1 : r72_1.toInt = oo.toInt := FF.mk (by have h1 := FF.out hq2; have h2 := FF.out hp72_5; omega)
          refine go_v (k1 := 0) (n1 := 0) (wr := []) [0, 1, 2] [] (rn_V (As := [.int 5, .int r72_1]) (rest := []) (c_X10_putNumber_w l D ct tl (5 : Int32) r72_1 tls o0 p0 x_tl_3 x_tl_4 o0r x_o0_1 g_o0r h_x_tl_3 (rg_w h_x_tl_4 (by decide)) h_x_o0_1 _) (cb_of (n := 2) hn mw_1315 mw_10 mw_1312 mhX10_putNumber ⟨(Nat.le_of_ble_eq_true rfl), (Nat.le_of_ble_eq_true rfl)⟩) hx hb hml hown hn hK hSK hZ hS mw_1314 mw_s148 (ci := 10) (q0 := 0) rfl rfl rfl rfl hl.1 (Nat.le_of_ble_eq_true rfl) dX10_turnMemory_75 ⟨(Nat.le_of_ble_eq_true rfl), (Nat.le_of_ble_eq_true rfl)⟩) hP hD hS hA rfl rfl (by decide) (by decide) (by decide) (Nat.le_of_ble_eq_true rfl) (Nat.le_of_ble_eq_true rfl) (fun u75_3 H locs hp75_4 hP hD hS => ?_)
          obtain ⟨y_tl_475_5, k_o0r75_6⟩ := u75_3
          obtain ⟨hp75_7, hp75_8, hp75_9, hp75_10⟩ := hp75_4
          have hp75_7 : rg y_tl_475_5 1 1000001 := hp75_7
          have hp75_8 : x_tl_4.toInt + 1 ≤ y_tl_475_5.toInt ∧ y_tl_475_5.toInt ≤ x_tl_4.toInt + 2 := hp75_8
          have hp75_9 : -2048 ≤ r72_1.toInt ∧ r72_1.toInt ≤ 2047 → y_tl_475_5.toInt = x_tl_4.toInt + 1 := hp75_9
          have hp75_10 : r72_1.toInt < -2048 ∨ 2047 < r72_1.toInt → y_tl_475_5.toInt = x_tl_4.toInt + 2 := hp75_10
          have hP : va_P D vwCl [(tl, .inr (10, [.ref tls, .ref o0, .ref p0, .int x_tl_3, .int y_tl_475_5])), (o0, .inr (5, [.ref o0r, .int x_o0_1])), (o0r, .inl (ct 1, 60000, .inl k_o0r75_6))] _ := hP
          have hD : va_D A [(tl, .inr (10, [.ref tls, .ref o0, .ref p0, .int x_tl_3, .int y_tl_475_5])), (o0, .inr (5, [.ref o0r, .int x_o0_1])), (o0r, .inl (ct 1, 60000, .inl k_o0r75_6))] := hD
          refine lv_aload_n hx hb dX10_turnMemory_78 rfl (lv_at hl 5 rfl) ?_
          refine lv_bipush (v := 51) hx hb dX10_turnMemory_79 (by decide) ?_
          refine lv_iconst (v := 0) hx hb dX10_turnMemory_81 (by decide) ?_
          refine lv_iconst (v := 0) hx hb dX10_turnMemory_82 (by decide) ?_
          refine lv_iconst (v := 5) hx hb dX10_turnMemory_83 (by decide) ?_
          refine lv_iconst (v := 5) hx hb dX10_turnMemory_84 (by decide) ?_
          refine lv_iload hx hb dX10_turnMemory_85 (lv_at hl 1 rfl) ?_
          refine go_i (k1 := 0) (n1 := 0) (wr := [(tl, .inr (10, [.ref tls, .ref o0, .ref p0, .int x_tl_3, .int y_tl_475_5])), (o0, .inr (5, [.ref o0r, .int x_o0_1])), (o0r, .inl (ct 1, 60000, .inl k_o0r75_6))]) [] [0, 1, 2] (rn_S (As := [.int r30_1]) (rest := [.int 5, .int 5, .int 0, .int 0, .int 51, .ref tl]) (c_X10_placeOf l D ct r30_1  _) (cb_of (n := 1) hn mw_1308 mw_10 mw_1306 mhX10_placeOf ⟨(Nat.le_of_ble_eq_true rfl), (Nat.le_of_ble_eq_true rfl)⟩) hx hb hml hown hn hK hSK hZ hS mw_1307 rfl hl.1 (Nat.le_of_ble_eq_true rfl) dX10_turnMemory_87 ⟨(Nat.le_of_ble_eq_true rfl), (Nat.le_of_ble_eq_true rfl)⟩) hP hD hS hA rfl rfl (by decide) (by decide) (by decide) (Nat.le_of_ble_eq_true rfl) (Nat.le_of_ble_eq_true rfl) (fun r87_1 u87_2 H locs hp87_3 hP hD hS => ?_)
          have hP : va_P D vwCl [(tl, .inr (10, [.ref tls, .ref o0, .ref p0, .int x_tl_3, .int y_tl_475_5])), (o0, .inr (5, [.ref o0r, .int x_o0_1])), (o0r, .inl (ct 1, 60000, .inl k_o0r75_6))] _ := hP
          have hD : va_D A [(tl, .inr (10, [.ref tls, .ref o0, .ref p0, .int x_tl_3, .int y_tl_475_5])), (o0, .inr (5, [.ref o0r, .int x_o0_1])), (o0r, .inl (ct 1, 60000, .inl k_o0r75_6))] := hD
          refine go_v (k1 := 0) (n1 := 0) (wr := []) [0, 1, 2] [] (rn_V (As := [.int 51, .int 0, .int 0, .int 5, .int 5, .int r87_1]) (rest := []) (c_X10_putOp l D ct tl (51 : Int32) (0 : Int32) (0 : Int32) (5 : Int32) (5 : Int32) r87_1 tls o0 p0 x_tl_3 y_tl_475_5 o0r x_o0_1 k_o0r75_6 h_x_tl_3 (rg_of (show 0 ≤ y_tl_475_5.toInt ∧ y_tl_475_5.toInt ≤ 999990 by have q0 := h_x_tl_4.1; have q1 := h_x_tl_4.2; have q2 := hp75_8; omega)) h_x_o0_1 _) (cb_of (n := 6) hn mw_1329 mw_10 mw_1326 mhX10_putOp ⟨(Nat.le_of_ble_eq_true rfl), (Nat.le_of_ble_eq_true rfl)⟩) hx hb hml hown hn hK hSK hZ hS mw_1328 mw_s151 (ci := 10) (q0 := 0) rfl rfl rfl rfl hl.1 (Nat.le_of_ble_eq_true rfl) dX10_turnMemory_90 ⟨(Nat.le_of_ble_eq_true rfl), (Nat.le_of_ble_eq_true rfl)⟩) hP hD hS hA rfl rfl (by decide) (by decide) (by decide) (Nat.le_of_ble_eq_true rfl) (Nat.le_of_ble_eq_true rfl) (fun u90_2 H locs hp90_3 hP hD hS => ?_)
          obtain ⟨y_tl_490_4, k_o0r90_5⟩ := u90_2
          obtain ⟨hp90_6, hp90_7⟩ := hp90_3
          have hp90_6 : rg y_tl_490_4 1 1000001 := hp90_6
          have hp90_7 : y_tl_490_4.toInt = y_tl_475_5.toInt + 1 := hp90_7
          have hP : va_P D vwCl [(tl, .inr (10, [.ref tls, .ref o0, .ref p0, .int x_tl_3, .int y_tl_490_4])), (o0, .inr (5, [.ref o0r, .int x_o0_1])), (o0r, .inl (ct 1, 60000, .inl k_o0r90_5))] _ := hP
          have hD : va_D A [(tl, .inr (10, [.ref tls, .ref o0, .ref p0, .int x_tl_3, .int y_tl_490_4])), (o0, .inr (5, [.ref o0r, .int x_o0_1])), (o0r, .inl (ct 1, 60000, .inl k_o0r90_5))] := hD
          refine lv_iload hx hb dX10_turnMemory_93 (lv_at hl 3 rfl) ?_
          refine lv_if_eq (tgt := 130) hx hb dX10_turnMemory_95 (by decide) (fun c95_1 => ?_) (fun c95_1 => ?_)
          · have t95_2 := (i_eq c95_1)
            refine lv_iload_n hx hb dX10_turnMemory_130 rfl (lv_at hl 4 rfl) ?_
            refine lv_iconst (v := 1) hx hb dX10_turnMemory_131 (by decide) ?_
            refine lv_iand hx hb dX10_turnMemory_132 ?_
            refine lv_topi (fun z132_1 ez132_1 => ?_)
            have r132_2 : rg z132_1 0 1 := rg_andr ez132_1 (show rg (1 : Int32) 1 1 from rg_l (by decide)) (by decide)
            refine lv_if_eq (tgt := 153) hx hb dX10_turnMemory_133 (by decide) (fun c133_1 => ?_) (fun c133_1 => ?_)
            · have t133_2 := (i_eq c133_1)
              have r133_3 : rg z132_1 0 0 := rg_eqA t133_2 r132_2 (show rg (0 : Int32) 0 0 from rg_l (by decide)) (by decide)
              refine lv_aload_n hx hb dX10_turnMemory_153 rfl (lv_at hl 5 rfl) ?_
              refine lv_bipush (v := 6) hx hb dX10_turnMemory_154 (by decide) ?_
              refine lv_lload_n hx hb dX10_turnMemory_156 rfl (lv_at hl 6 rfl) ?_
              refine go_i (k1 := 0) (n1 := 0) (wr := [(tl, .inr (10, [.ref tls, .ref o0, .ref p0, .int x_tl_3, .int y_tl_490_4])), (o0, .inr (5, [.ref o0r, .int x_o0_1])), (o0r, .inl (ct 1, 60000, .inl k_o0r90_5))]) [] [0, 1, 2] (rn_SN (As := [.long v0]) (rest := [.int 6, .ref tl]) (c_X7_kOf_w l D ct v0  _) (cn_of (n := 1) hn mw_995 mw_7 mw_1311 mhX7_kOf ⟨(Nat.le_of_ble_eq_true rfl), (Nat.le_of_ble_eq_true rfl)⟩) hx hb hml hown hn hK hSK hZ hS mw_994 rfl hl.1 (Nat.le_of_ble_eq_true rfl) dX10_turnMemory_157 ⟨(Nat.le_of_ble_eq_true rfl), (Nat.le_of_ble_eq_true rfl)⟩) hP hD hS hA rfl rfl (by decide) (by decide) (by decide) (Nat.le_of_ble_eq_true rfl) (Nat.le_of_ble_eq_true rfl) (fun r157_1 u157_2 H locs hp157_3 hP hD hS => ?_)
              have hp157_4 := hp157_3
              have hp157_4 : r157_1.toInt = v0.toInt / 4294967296 := hp157_4
              have hP : va_P D vwCl [(tl, .inr (10, [.ref tls, .ref o0, .ref p0, .int x_tl_3, .int y_tl_490_4])), (o0, .inr (5, [.ref o0r, .int x_o0_1])), (o0r, .inl (ct 1, 60000, .inl k_o0r90_5))] _ := hP
              have hD : va_D A [(tl, .inr (10, [.ref tls, .ref o0, .ref p0, .int x_tl_3, .int y_tl_490_4])), (o0, .inr (5, [.ref o0r, .int x_o0_1])), (o0r, .inl (ct 1, 60000, .inl k_o0r90_5))] := hD
              have hk160_1 : r157_1.toInt = kk.toInt := FF.mk (by have h1 := FF.out hq1; have h2 := FF.out hp157_4; omega)
              refine go_v (k1 := 0) (n1 := 0) (wr := []) [0, 1, 2] [] (rn_V (As := [.int 6, .int r157_1]) (rest := []) (c_X10_putNumber_w l D ct tl (6 : Int32) r157_1 tls o0 p0 x_tl_3 y_tl_490_4 o0r x_o0_1 k_o0r90_5 h_x_tl_3 (rg_of (show 0 ≤ y_tl_490_4.toInt ∧ y_tl_490_4.toInt ≤ 999950 by have q0 := h_x_tl_4.1; have q1 := h_x_tl_4.2; have q2 := hp75_8; have q3 := hp90_7; omega)) h_x_o0_1 _) (cb_of (n := 2) hn mw_1315 mw_10 mw_1312 mhX10_putNumber ⟨(Nat.le_of_ble_eq_true rfl), (Nat.le_of_ble_eq_true rfl)⟩) hx hb hml hown hn hK hSK hZ hS mw_1314 mw_s148 (ci := 10) (q0 := 0) rfl rfl rfl rfl hl.1 (Nat.le_of_ble_eq_true rfl) dX10_turnMemory_160 ⟨(Nat.le_of_ble_eq_true rfl), (Nat.le_of_ble_eq_true rfl)⟩) hP hD hS hA rfl rfl (by decide) (by decide) (by decide) (Nat.le_of_ble_eq_true rfl) (Nat.le_of_ble_eq_true rfl) (fun u160_3 H locs hp160_4 hP hD hS => ?_)
              obtain ⟨y_tl_4160_5, k_o0r160_6⟩ := u160_3
              obtain ⟨hp160_7, hp160_8, hp160_9, hp160_10⟩ := hp160_4
              have hp160_7 : rg y_tl_4160_5 1 1000001 := hp160_7
              have hp160_8 : y_tl_490_4.toInt + 1 ≤ y_tl_4160_5.toInt ∧ y_tl_4160_5.toInt ≤ y_tl_490_4.toInt + 2 := hp160_8
              have hp160_9 : -2048 ≤ r157_1.toInt ∧ r157_1.toInt ≤ 2047 → y_tl_4160_5.toInt = y_tl_490_4.toInt + 1 := hp160_9
              have hp160_10 : r157_1.toInt < -2048 ∨ 2047 < r157_1.toInt → y_tl_4160_5.toInt = y_tl_490_4.toInt + 2 := hp160_10
              have hP : va_P D vwCl [(tl, .inr (10, [.ref tls, .ref o0, .ref p0, .int x_tl_3, .int y_tl_4160_5])), (o0, .inr (5, [.ref o0r, .int x_o0_1])), (o0r, .inl (ct 1, 60000, .inl k_o0r160_6))] _ := hP
              have hD : va_D A [(tl, .inr (10, [.ref tls, .ref o0, .ref p0, .int x_tl_3, .int y_tl_4160_5])), (o0, .inr (5, [.ref o0r, .int x_o0_1])), (o0r, .inl (ct 1, 60000, .inl k_o0r160_6))] := hD
              refine lv_aload_n hx hb dX10_turnMemory_163 rfl (lv_at hl 5 rfl) ?_
              refine lv_iload hx hb dX10_turnMemory_164 (lv_at hl 0 rfl) ?_
              refine lv_iconst (v := 5) hx hb dX10_turnMemory_166 (by decide) ?_
              refine lv_bipush (v := 6) hx hb dX10_turnMemory_167 (by decide) ?_
              refine go_v (k1 := 0) (n1 := 0) (wr := []) [0, 1, 2] [] (rn_V (As := [.int 0, .int 5, .int 6]) (rest := []) (c_X10_putStore l D ct tl (0 : Int32) (5 : Int32) (6 : Int32) tls o0 p0 x_tl_3 y_tl_4160_5 o0r x_o0_1 k_o0r160_6 h_x_tl_3 (rg_of (show 0 ≤ y_tl_4160_5.toInt ∧ y_tl_4160_5.toInt ≤ 999990 by have q0 := h_x_tl_4.1; have q1 := h_x_tl_4.2; have q2 := hp75_8; have q3 := hp90_7; have q4 := hp160_8; omega)) h_x_o0_1 _) (cb_of (n := 3) hn mw_1383 mw_10 mw_1380 mhX10_putStore ⟨(Nat.le_of_ble_eq_true rfl), (Nat.le_of_ble_eq_true rfl)⟩) hx hb hml hown hn hK hSK hZ hS mw_1382 mw_s162 (ci := 10) (q0 := 0) rfl rfl rfl rfl hl.1 (Nat.le_of_ble_eq_true rfl) dX10_turnMemory_169 ⟨(Nat.le_of_ble_eq_true rfl), (Nat.le_of_ble_eq_true rfl)⟩) hP hD hS hA rfl rfl (by decide) (by decide) (by decide) (Nat.le_of_ble_eq_true rfl) (Nat.le_of_ble_eq_true rfl) (fun u169_2 H locs hp169_3 hP hD hS => ?_)
              obtain ⟨y_tl_4169_4, k_o0r169_5⟩ := u169_2
              obtain ⟨hp169_6, hp169_7⟩ := hp169_3
              have hp169_6 : rg y_tl_4169_4 1 1000001 := hp169_6
              have hp169_7 : y_tl_4169_4.toInt = y_tl_4160_5.toInt + 1 := hp169_7
              have hP : va_P D vwCl [(tl, .inr (10, [.ref tls, .ref o0, .ref p0, .int x_tl_3, .int y_tl_4169_4])), (o0, .inr (5, [.ref o0r, .int x_o0_1])), (o0r, .inl (ct 1, 60000, .inl k_o0r169_5))] _ := hP
              have hD : va_D A [(tl, .inr (10, [.ref tls, .ref o0, .ref p0, .int x_tl_3, .int y_tl_4169_4])), (o0, .inr (5, [.ref o0r, .int x_o0_1])), (o0r, .inl (ct 1, 60000, .inl k_o0r169_5))] := hD
              exact endq_v hQ hx hb hr hlocks dX10_turnMemory_172 (y_tl_4169_4, k_o0r169_5) ⟨hp169_6, (show x_tl_4.toInt + 3 ≤ y_tl_4169_4.toInt ∧ y_tl_4169_4.toInt ≤ x_tl_4.toInt + 6 by have q0 := hp75_8; have q1 := hp90_7; have q2 := hp160_8; have q3 := hp169_7; omega), (show y_tl_4169_4.toInt = x_tl_4.toInt + ((d : Nat) : Int) by have q0 := (eq_and (c := 2) (k := 1) ez132_1 (by decide) (by decide)); have q1 := hk0_5; have q2 := hk0_6; have q3 := hk0_8; have q4 := hk0_9; have q5 := hk4_1; have q6 := hp6_6; have q7 := hk75_1; have q8 := hp75_8; have q9 := hp75_9; have q10 := hp75_10; have q11 := hp90_7; have q12 := t95_2; have q13 := t133_2; have q14 := hk160_1; have q15 := hp160_8; have q16 := hp160_9; have q17 := hp160_10; have q18 := hp169_7; have q19 := (show (0 : Int32).toInt = 0 from by decide); omega)⟩ hP hD hS [0, 1, 2] rfl (by decide) rfl (Nat.le_of_ble_eq_true rfl) (Nat.le_of_ble_eq_true rfl)
            · have t133_2 := (i_ne c133_1)
              have r133_3 : rg z132_1 1 1 := rg_neAl t133_2 r132_2 (show rg (0 : Int32) 0 0 from rg_l (by decide)) (by decide)
              refine lv_aload_n hx hb dX10_turnMemory_136 rfl (lv_at hl 5 rfl) ?_
              refine lv_iload hx hb dX10_turnMemory_137 (lv_at hl 0 rfl) ?_
              refine lv_iconst (v := 5) hx hb dX10_turnMemory_139 (by decide) ?_
              refine lv_lload_n hx hb dX10_turnMemory_140 rfl (lv_at hl 6 rfl) ?_
              refine go_i (k1 := 0) (n1 := 0) (wr := [(tl, .inr (10, [.ref tls, .ref o0, .ref p0, .int x_tl_3, .int y_tl_490_4])), (o0, .inr (5, [.ref o0r, .int x_o0_1])), (o0r, .inl (ct 1, 60000, .inl k_o0r90_5))]) [] [0, 1, 2] (rn_SN (As := [.long v0]) (rest := [.int 5, .int 0, .ref tl]) (c_X7_sOf l D ct v0  _) (cn_of (n := 1) hn mw_989 mw_7 mw_1321 mhX7_sOf ⟨(Nat.le_of_ble_eq_true rfl), (Nat.le_of_ble_eq_true rfl)⟩) hx hb hml hown hn hK hSK hZ hS mw_988 rfl hl.1 (Nat.le_of_ble_eq_true rfl) dX10_turnMemory_141 ⟨(Nat.le_of_ble_eq_true rfl), (Nat.le_of_ble_eq_true rfl)⟩) hP hD hS hA rfl rfl (by decide) (by decide) (by decide) (Nat.le_of_ble_eq_true rfl) (Nat.le_of_ble_eq_true rfl) (fun r141_1 u141_2 H locs hp141_3 hP hD hS => ?_)
              obtain ⟨hp141_4, hp141_5⟩ := hp141_3
              have hp141_4 : rg r141_1 0 15 := hp141_4
              have hp141_5 : r141_1.toInt = (v0.toInt / 4096) % 16 := hp141_5
              have hP : va_P D vwCl [(tl, .inr (10, [.ref tls, .ref o0, .ref p0, .int x_tl_3, .int y_tl_490_4])), (o0, .inr (5, [.ref o0r, .int x_o0_1])), (o0r, .inl (ct 1, 60000, .inl k_o0r90_5))] _ := hP
              have hD : va_D A [(tl, .inr (10, [.ref tls, .ref o0, .ref p0, .int x_tl_3, .int y_tl_490_4])), (o0, .inr (5, [.ref o0r, .int x_o0_1])), (o0r, .inl (ct 1, 60000, .inl k_o0r90_5))] := hD
              refine go_i (k1 := 0) (n1 := 0) (wr := [(tl, .inr (10, [.ref tls, .ref o0, .ref p0, .int x_tl_3, .int y_tl_490_4])), (o0, .inr (5, [.ref o0r, .int x_o0_1])), (o0r, .inl (ct 1, 60000, .inl k_o0r90_5))]) [] [0, 1, 2] (rn_S (As := [.int r141_1]) (rest := [.int 5, .int 0, .ref tl]) (c_X10_placeOf l D ct r141_1  _) (cb_of (n := 1) hn mw_1308 mw_10 mw_1306 mhX10_placeOf ⟨(Nat.le_of_ble_eq_true rfl), (Nat.le_of_ble_eq_true rfl)⟩) hx hb hml hown hn hK hSK hZ hS mw_1307 rfl hl.1 (Nat.le_of_ble_eq_true rfl) dX10_turnMemory_144 ⟨(Nat.le_of_ble_eq_true rfl), (Nat.le_of_ble_eq_true rfl)⟩) hP hD hS hA rfl rfl (by decide) (by decide) (by decide) (Nat.le_of_ble_eq_true rfl) (Nat.le_of_ble_eq_true rfl) (fun r144_1 u144_2 H locs hp144_3 hP hD hS => ?_)
              have hP : va_P D vwCl [(tl, .inr (10, [.ref tls, .ref o0, .ref p0, .int x_tl_3, .int y_tl_490_4])), (o0, .inr (5, [.ref o0r, .int x_o0_1])), (o0r, .inl (ct 1, 60000, .inl k_o0r90_5))] _ := hP
              have hD : va_D A [(tl, .inr (10, [.ref tls, .ref o0, .ref p0, .int x_tl_3, .int y_tl_490_4])), (o0, .inr (5, [.ref o0r, .int x_o0_1])), (o0r, .inl (ct 1, 60000, .inl k_o0r90_5))] := hD
              refine go_v (k1 := 0) (n1 := 0) (wr := []) [0, 1, 2] [] (rn_V (As := [.int 0, .int 5, .int r144_1]) (rest := []) (c_X10_putStore l D ct tl (0 : Int32) (5 : Int32) r144_1 tls o0 p0 x_tl_3 y_tl_490_4 o0r x_o0_1 k_o0r90_5 h_x_tl_3 (rg_of (show 0 ≤ y_tl_490_4.toInt ∧ y_tl_490_4.toInt ≤ 999990 by have q0 := h_x_tl_4.1; have q1 := h_x_tl_4.2; have q2 := hp75_8; have q3 := hp90_7; omega)) h_x_o0_1 _) (cb_of (n := 3) hn mw_1383 mw_10 mw_1380 mhX10_putStore ⟨(Nat.le_of_ble_eq_true rfl), (Nat.le_of_ble_eq_true rfl)⟩) hx hb hml hown hn hK hSK hZ hS mw_1382 mw_s162 (ci := 10) (q0 := 0) rfl rfl rfl rfl hl.1 (Nat.le_of_ble_eq_true rfl) dX10_turnMemory_147 ⟨(Nat.le_of_ble_eq_true rfl), (Nat.le_of_ble_eq_true rfl)⟩) hP hD hS hA rfl rfl (by decide) (by decide) (by decide) (Nat.le_of_ble_eq_true rfl) (Nat.le_of_ble_eq_true rfl) (fun u147_2 H locs hp147_3 hP hD hS => ?_)
              obtain ⟨y_tl_4147_4, k_o0r147_5⟩ := u147_2
              obtain ⟨hp147_6, hp147_7⟩ := hp147_3
              have hp147_6 : rg y_tl_4147_4 1 1000001 := hp147_6
              have hp147_7 : y_tl_4147_4.toInt = y_tl_490_4.toInt + 1 := hp147_7
              have hP : va_P D vwCl [(tl, .inr (10, [.ref tls, .ref o0, .ref p0, .int x_tl_3, .int y_tl_4147_4])), (o0, .inr (5, [.ref o0r, .int x_o0_1])), (o0r, .inl (ct 1, 60000, .inl k_o0r147_5))] _ := hP
              have hD : va_D A [(tl, .inr (10, [.ref tls, .ref o0, .ref p0, .int x_tl_3, .int y_tl_4147_4])), (o0, .inr (5, [.ref o0r, .int x_o0_1])), (o0r, .inl (ct 1, 60000, .inl k_o0r147_5))] := hD
              refine lv_goto (tgt := 172) hx hb dX10_turnMemory_150 (by decide) ?_
              exact endq_v hQ hx hb hr hlocks dX10_turnMemory_172 (y_tl_4147_4, k_o0r147_5) ⟨hp147_6, (show x_tl_4.toInt + 3 ≤ y_tl_4147_4.toInt ∧ y_tl_4147_4.toInt ≤ x_tl_4.toInt + 6 by have q0 := hp75_8; have q1 := hp90_7; have q2 := hp147_7; omega), (show y_tl_4147_4.toInt = x_tl_4.toInt + ((d : Nat) : Int) by have q0 := r133_3.1; have q1 := (eq_and (c := 2) (k := 1) ez132_1 (by decide) (by decide)); have q2 := hk0_4; have q3 := hk0_7; have q4 := hk4_1; have q5 := hk75_1; have q6 := hp75_8; have q7 := hp75_9; have q8 := hp75_10; have q9 := hp90_7; have q10 := hp147_7; omega)⟩ hP hD hS [0, 1, 2] rfl (by decide) rfl (Nat.le_of_ble_eq_true rfl) (Nat.le_of_ble_eq_true rfl)
          · exact absurd (i_ne c95_1) (rg_neX r19_3 (show rg (0 : Int32) 0 0 from rg_l (by decide)) (by decide))
        · have t59_2 := (i_eq c59_1)
          have r59_3 : rg r12_1 2 2 := rg_eqA t59_2 r39_3 (show rg (2 : Int32) 2 2 from rg_l (by decide)) (by decide)
          refine lv_iconst (v := 1) hx hb dX10_turnMemory_62 (by decide) ?_
          refine lv_goto (tgt := 67) hx hb dX10_turnMemory_63 (by decide) ?_
          refine lv_istore (lv' := [(7, .int 1), (6, .int r30_1), (5, .int r12_1), (4, .int r6_1), (3, .int r1_1), (0, .ref tl), (1, .long v0)]) hx hb dX10_turnMemory_67 hl (by decide) rfl (fun ls hl => ?_)
          refine lv_aload_n hx hb dX10_turnMemory_69 rfl (lv_at hl 5 rfl) ?_
          refine lv_iconst (v := 5) hx hb dX10_turnMemory_70 (by decide) ?_
          refine lv_lload_n hx hb dX10_turnMemory_71 rfl (lv_at hl 6 rfl) ?_
          refine go_i (k1 := 0) (n1 := 0) (wr := [(tl, .inr (10, [.ref tls, .ref o0, .ref p0, .int x_tl_3, .int x_tl_4])), (o0, .inr (5, [.ref o0r, .int x_o0_1])), (o0r, .inl (ct 1, 60000, .inl g_o0r))]) [] [0, 1, 2] (rn_SN (As := [.long v0]) (rest := [.int 5, .ref tl]) (c_X7_offOf_w l D ct v0  _) (cn_of (n := 1) hn mw_992 mw_7 mw_1368 mhX7_offOf ⟨(Nat.le_of_ble_eq_true rfl), (Nat.le_of_ble_eq_true rfl)⟩) hx hb hml hown hn hK hSK hZ hS mw_991 rfl hl.1 (Nat.le_of_ble_eq_true rfl) dX10_turnMemory_72 ⟨(Nat.le_of_ble_eq_true rfl), (Nat.le_of_ble_eq_true rfl)⟩) hP hD hS hA rfl rfl (by decide) (by decide) (by decide) (Nat.le_of_ble_eq_true rfl) (Nat.le_of_ble_eq_true rfl) (fun r72_1 u72_2 H locs hp72_3 hP hD hS => ?_)
          obtain ⟨hp72_4, hp72_5⟩ := hp72_3
          have hp72_4 : rg r72_1 (-32768) 32767 := hp72_4
          have hp72_5 : r72_1.toInt = (v0.toInt / 65536 + 32768) % 65536 - 32768 := hp72_5
          have hP : va_P D vwCl [(tl, .inr (10, [.ref tls, .ref o0, .ref p0, .int x_tl_3, .int x_tl_4])), (o0, .inr (5, [.ref o0r, .int x_o0_1])), (o0r, .inl (ct 1, 60000, .inl g_o0r))] _ := hP
          have hD : va_D A [(tl, .inr (10, [.ref tls, .ref o0, .ref p0, .int x_tl_3, .int x_tl_4])), (o0, .inr (5, [.ref o0r, .int x_o0_1])), (o0r, .inl (ct 1, 60000, .inl g_o0r))] := hD
          have hk75_1 : r72_1.toInt = oo.toInt := FF.mk (by have h1 := FF.out hq2; have h2 := FF.out hp72_5; omega)
          refine go_v (k1 := 0) (n1 := 0) (wr := []) [0, 1, 2] [] (rn_V (As := [.int 5, .int r72_1]) (rest := []) (c_X10_putNumber_w l D ct tl (5 : Int32) r72_1 tls o0 p0 x_tl_3 x_tl_4 o0r x_o0_1 g_o0r h_x_tl_3 (rg_w h_x_tl_4 (by decide)) h_x_o0_1 _) (cb_of (n := 2) hn mw_1315 mw_10 mw_1312 mhX10_putNumber ⟨(Nat.le_of_ble_eq_true rfl), (Nat.le_of_ble_eq_true rfl)⟩) hx hb hml hown hn hK hSK hZ hS mw_1314 mw_s148 (ci := 10) (q0 := 0) rfl rfl rfl rfl hl.1 (Nat.le_of_ble_eq_true rfl) dX10_turnMemory_75 ⟨(Nat.le_of_ble_eq_true rfl), (Nat.le_of_ble_eq_true rfl)⟩) hP hD hS hA rfl rfl (by decide) (by decide) (by decide) (Nat.le_of_ble_eq_true rfl) (Nat.le_of_ble_eq_true rfl) (fun u75_3 H locs hp75_4 hP hD hS => ?_)
          obtain ⟨y_tl_475_5, k_o0r75_6⟩ := u75_3
          obtain ⟨hp75_7, hp75_8, hp75_9, hp75_10⟩ := hp75_4
          have hp75_7 : rg y_tl_475_5 1 1000001 := hp75_7
          have hp75_8 : x_tl_4.toInt + 1 ≤ y_tl_475_5.toInt ∧ y_tl_475_5.toInt ≤ x_tl_4.toInt + 2 := hp75_8
          have hp75_9 : -2048 ≤ r72_1.toInt ∧ r72_1.toInt ≤ 2047 → y_tl_475_5.toInt = x_tl_4.toInt + 1 := hp75_9
          have hp75_10 : r72_1.toInt < -2048 ∨ 2047 < r72_1.toInt → y_tl_475_5.toInt = x_tl_4.toInt + 2 := hp75_10
          have hP : va_P D vwCl [(tl, .inr (10, [.ref tls, .ref o0, .ref p0, .int x_tl_3, .int y_tl_475_5])), (o0, .inr (5, [.ref o0r, .int x_o0_1])), (o0r, .inl (ct 1, 60000, .inl k_o0r75_6))] _ := hP
          have hD : va_D A [(tl, .inr (10, [.ref tls, .ref o0, .ref p0, .int x_tl_3, .int y_tl_475_5])), (o0, .inr (5, [.ref o0r, .int x_o0_1])), (o0r, .inl (ct 1, 60000, .inl k_o0r75_6))] := hD
          refine lv_aload_n hx hb dX10_turnMemory_78 rfl (lv_at hl 5 rfl) ?_
          refine lv_bipush (v := 51) hx hb dX10_turnMemory_79 (by decide) ?_
          refine lv_iconst (v := 0) hx hb dX10_turnMemory_81 (by decide) ?_
          refine lv_iconst (v := 0) hx hb dX10_turnMemory_82 (by decide) ?_
          refine lv_iconst (v := 5) hx hb dX10_turnMemory_83 (by decide) ?_
          refine lv_iconst (v := 5) hx hb dX10_turnMemory_84 (by decide) ?_
          refine lv_iload hx hb dX10_turnMemory_85 (lv_at hl 1 rfl) ?_
          refine go_i (k1 := 0) (n1 := 0) (wr := [(tl, .inr (10, [.ref tls, .ref o0, .ref p0, .int x_tl_3, .int y_tl_475_5])), (o0, .inr (5, [.ref o0r, .int x_o0_1])), (o0r, .inl (ct 1, 60000, .inl k_o0r75_6))]) [] [0, 1, 2] (rn_S (As := [.int r30_1]) (rest := [.int 5, .int 5, .int 0, .int 0, .int 51, .ref tl]) (c_X10_placeOf l D ct r30_1  _) (cb_of (n := 1) hn mw_1308 mw_10 mw_1306 mhX10_placeOf ⟨(Nat.le_of_ble_eq_true rfl), (Nat.le_of_ble_eq_true rfl)⟩) hx hb hml hown hn hK hSK hZ hS mw_1307 rfl hl.1 (Nat.le_of_ble_eq_true rfl) dX10_turnMemory_87 ⟨(Nat.le_of_ble_eq_true rfl), (Nat.le_of_ble_eq_true rfl)⟩) hP hD hS hA rfl rfl (by decide) (by decide) (by decide) (Nat.le_of_ble_eq_true rfl) (Nat.le_of_ble_eq_true rfl) (fun r87_1 u87_2 H locs hp87_3 hP hD hS => ?_)
          have hP : va_P D vwCl [(tl, .inr (10, [.ref tls, .ref o0, .ref p0, .int x_tl_3, .int y_tl_475_5])), (o0, .inr (5, [.ref o0r, .int x_o0_1])), (o0r, .inl (ct 1, 60000, .inl k_o0r75_6))] _ := hP
          have hD : va_D A [(tl, .inr (10, [.ref tls, .ref o0, .ref p0, .int x_tl_3, .int y_tl_475_5])), (o0, .inr (5, [.ref o0r, .int x_o0_1])), (o0r, .inl (ct 1, 60000, .inl k_o0r75_6))] := hD
          refine go_v (k1 := 0) (n1 := 0) (wr := []) [0, 1, 2] [] (rn_V (As := [.int 51, .int 0, .int 0, .int 5, .int 5, .int r87_1]) (rest := []) (c_X10_putOp l D ct tl (51 : Int32) (0 : Int32) (0 : Int32) (5 : Int32) (5 : Int32) r87_1 tls o0 p0 x_tl_3 y_tl_475_5 o0r x_o0_1 k_o0r75_6 h_x_tl_3 (rg_of (show 0 ≤ y_tl_475_5.toInt ∧ y_tl_475_5.toInt ≤ 999990 by have q0 := h_x_tl_4.1; have q1 := h_x_tl_4.2; have q2 := hp75_8; omega)) h_x_o0_1 _) (cb_of (n := 6) hn mw_1329 mw_10 mw_1326 mhX10_putOp ⟨(Nat.le_of_ble_eq_true rfl), (Nat.le_of_ble_eq_true rfl)⟩) hx hb hml hown hn hK hSK hZ hS mw_1328 mw_s151 (ci := 10) (q0 := 0) rfl rfl rfl rfl hl.1 (Nat.le_of_ble_eq_true rfl) dX10_turnMemory_90 ⟨(Nat.le_of_ble_eq_true rfl), (Nat.le_of_ble_eq_true rfl)⟩) hP hD hS hA rfl rfl (by decide) (by decide) (by decide) (Nat.le_of_ble_eq_true rfl) (Nat.le_of_ble_eq_true rfl) (fun u90_2 H locs hp90_3 hP hD hS => ?_)
          obtain ⟨y_tl_490_4, k_o0r90_5⟩ := u90_2
          obtain ⟨hp90_6, hp90_7⟩ := hp90_3
          have hp90_6 : rg y_tl_490_4 1 1000001 := hp90_6
          have hp90_7 : y_tl_490_4.toInt = y_tl_475_5.toInt + 1 := hp90_7
          have hP : va_P D vwCl [(tl, .inr (10, [.ref tls, .ref o0, .ref p0, .int x_tl_3, .int y_tl_490_4])), (o0, .inr (5, [.ref o0r, .int x_o0_1])), (o0r, .inl (ct 1, 60000, .inl k_o0r90_5))] _ := hP
          have hD : va_D A [(tl, .inr (10, [.ref tls, .ref o0, .ref p0, .int x_tl_3, .int y_tl_490_4])), (o0, .inr (5, [.ref o0r, .int x_o0_1])), (o0r, .inl (ct 1, 60000, .inl k_o0r90_5))] := hD
          refine lv_iload hx hb dX10_turnMemory_93 (lv_at hl 3 rfl) ?_
          refine lv_if_eq (tgt := 130) hx hb dX10_turnMemory_95 (by decide) (fun c95_1 => ?_) (fun c95_1 => ?_)
          · have t95_2 := (i_eq c95_1)
            refine lv_iload_n hx hb dX10_turnMemory_130 rfl (lv_at hl 4 rfl) ?_
            refine lv_iconst (v := 1) hx hb dX10_turnMemory_131 (by decide) ?_
            refine lv_iand hx hb dX10_turnMemory_132 ?_
            refine lv_topi (fun z132_1 ez132_1 => ?_)
            have r132_2 : rg z132_1 0 1 := rg_andr ez132_1 (show rg (1 : Int32) 1 1 from rg_l (by decide)) (by decide)
            refine lv_if_eq (tgt := 153) hx hb dX10_turnMemory_133 (by decide) (fun c133_1 => ?_) (fun c133_1 => ?_)
            · have t133_2 := (i_eq c133_1)
              have r133_3 : rg z132_1 0 0 := rg_eqA t133_2 r132_2 (show rg (0 : Int32) 0 0 from rg_l (by decide)) (by decide)
              refine lv_aload_n hx hb dX10_turnMemory_153 rfl (lv_at hl 5 rfl) ?_
              refine lv_bipush (v := 6) hx hb dX10_turnMemory_154 (by decide) ?_
              refine lv_lload_n hx hb dX10_turnMemory_156 rfl (lv_at hl 6 rfl) ?_
              refine go_i (k1 := 0) (n1 := 0) (wr := [(tl, .inr (10, [.ref tls, .ref o0, .ref p0, .int x_tl_3, .int y_tl_490_4])), (o0, .inr (5, [.ref o0r, .int x_o0_1])), (o0r, .inl (ct 1, 60000, .inl k_o0r90_5))]) [] [0, 1, 2] (rn_SN (As := [.long v0]) (rest := [.int 6, .ref tl]) (c_X7_kOf_w l D ct v0  _) (cn_of (n := 1) hn mw_995 mw_7 mw_1311 mhX7_kOf ⟨(Nat.le_of_ble_eq_true rfl), (Nat.le_of_ble_eq_true rfl)⟩) hx hb hml hown hn hK hSK hZ hS mw_994 rfl hl.1 (Nat.le_of_ble_eq_true rfl) dX10_turnMemory_157 ⟨(Nat.le_of_ble_eq_true rfl), (Nat.le_of_ble_eq_true rfl)⟩) hP hD hS hA rfl rfl (by decide) (by decide) (by decide) (Nat.le_of_ble_eq_true rfl) (Nat.le_of_ble_eq_true rfl) (fun r157_1 u157_2 H locs hp157_3 hP hD hS => ?_)
              have hp157_4 := hp157_3
              have hp157_4 : r157_1.toInt = v0.toInt / 4294967296 := hp157_4
              have hP : va_P D vwCl [(tl, .inr (10, [.ref tls, .ref o0, .ref p0, .int x_tl_3, .int y_tl_490_4])), (o0, .inr (5, [.ref o0r, .int x_o0_1])), (o0r, .inl (ct 1, 60000, .inl k_o0r90_5))] _ := hP
              have hD : va_D A [(tl, .inr (10, [.ref tls, .ref o0, .ref p0, .int x_tl_3, .int y_tl_490_4])), (o0, .inr (5, [.ref o0r, .int x_o0_1])), (o0r, .inl (ct 1, 60000, .inl k_o0r90_5))] := hD
              have hk160_1 : r157_1.toInt = kk.toInt := FF.mk (by have h1 := FF.out hq1; have h2 := FF.out hp157_4; omega)
              refine go_v (k1 := 0) (n1 := 0) (wr := []) [0, 1, 2] [] (rn_V (As := [.int 6, .int r157_1]) (rest := []) (c_X10_putNumber_w l D ct tl (6 : Int32) r157_1 tls o0 p0 x_tl_3 y_tl_490_4 o0r x_o0_1 k_o0r90_5 h_x_tl_3 (rg_of (show 0 ≤ y_tl_490_4.toInt ∧ y_tl_490_4.toInt ≤ 999950 by have q0 := h_x_tl_4.1; have q1 := h_x_tl_4.2; have q2 := hp75_8; have q3 := hp90_7; omega)) h_x_o0_1 _) (cb_of (n := 2) hn mw_1315 mw_10 mw_1312 mhX10_putNumber ⟨(Nat.le_of_ble_eq_true rfl), (Nat.le_of_ble_eq_true rfl)⟩) hx hb hml hown hn hK hSK hZ hS mw_1314 mw_s148 (ci := 10) (q0 := 0) rfl rfl rfl rfl hl.1 (Nat.le_of_ble_eq_true rfl) dX10_turnMemory_160 ⟨(Nat.le_of_ble_eq_true rfl), (Nat.le_of_ble_eq_true rfl)⟩) hP hD hS hA rfl rfl (by decide) (by decide) (by decide) (Nat.le_of_ble_eq_true rfl) (Nat.le_of_ble_eq_true rfl) (fun u160_3 H locs hp160_4 hP hD hS => ?_)
              obtain ⟨y_tl_4160_5, k_o0r160_6⟩ := u160_3
              obtain ⟨hp160_7, hp160_8, hp160_9, hp160_10⟩ := hp160_4
              have hp160_7 : rg y_tl_4160_5 1 1000001 := hp160_7
              have hp160_8 : y_tl_490_4.toInt + 1 ≤ y_tl_4160_5.toInt ∧ y_tl_4160_5.toInt ≤ y_tl_490_4.toInt + 2 := hp160_8
              have hp160_9 : -2048 ≤ r157_1.toInt ∧ r157_1.toInt ≤ 2047 → y_tl_4160_5.toInt = y_tl_490_4.toInt + 1 := hp160_9
              have hp160_10 : r157_1.toInt < -2048 ∨ 2047 < r157_1.toInt → y_tl_4160_5.toInt = y_tl_490_4.toInt + 2 := hp160_10
              have hP : va_P D vwCl [(tl, .inr (10, [.ref tls, .ref o0, .ref p0, .int x_tl_3, .int y_tl_4160_5])), (o0, .inr (5, [.ref o0r, .int x_o0_1])), (o0r, .inl (ct 1, 60000, .inl k_o0r160_6))] _ := hP
              have hD : va_D A [(tl, .inr (10, [.ref tls, .ref o0, .ref p0, .int x_tl_3, .int y_tl_4160_5])), (o0, .inr (5, [.ref o0r, .int x_o0_1])), (o0r, .inl (ct 1, 60000, .inl k_o0r160_6))] := hD
              refine lv_aload_n hx hb dX10_turnMemory_163 rfl (lv_at hl 5 rfl) ?_
              refine lv_iload hx hb dX10_turnMemory_164 (lv_at hl 0 rfl) ?_
              refine lv_iconst (v := 5) hx hb dX10_turnMemory_166 (by decide) ?_
              refine lv_bipush (v := 6) hx hb dX10_turnMemory_167 (by decide) ?_
              refine go_v (k1 := 0) (n1 := 0) (wr := []) [0, 1, 2] [] (rn_V (As := [.int 1, .int 5, .int 6]) (rest := []) (c_X10_putStore l D ct tl (1 : Int32) (5 : Int32) (6 : Int32) tls o0 p0 x_tl_3 y_tl_4160_5 o0r x_o0_1 k_o0r160_6 h_x_tl_3 (rg_of (show 0 ≤ y_tl_4160_5.toInt ∧ y_tl_4160_5.toInt ≤ 999990 by have q0 := h_x_tl_4.1; have q1 := h_x_tl_4.2; have q2 := hp75_8; have q3 := hp90_7; have q4 := hp160_8; omega)) h_x_o0_1 _) (cb_of (n := 3) hn mw_1383 mw_10 mw_1380 mhX10_putStore ⟨(Nat.le_of_ble_eq_true rfl), (Nat.le_of_ble_eq_true rfl)⟩) hx hb hml hown hn hK hSK hZ hS mw_1382 mw_s162 (ci := 10) (q0 := 0) rfl rfl rfl rfl hl.1 (Nat.le_of_ble_eq_true rfl) dX10_turnMemory_169 ⟨(Nat.le_of_ble_eq_true rfl), (Nat.le_of_ble_eq_true rfl)⟩) hP hD hS hA rfl rfl (by decide) (by decide) (by decide) (Nat.le_of_ble_eq_true rfl) (Nat.le_of_ble_eq_true rfl) (fun u169_2 H locs hp169_3 hP hD hS => ?_)
              obtain ⟨y_tl_4169_4, k_o0r169_5⟩ := u169_2
              obtain ⟨hp169_6, hp169_7⟩ := hp169_3
              have hp169_6 : rg y_tl_4169_4 1 1000001 := hp169_6
              have hp169_7 : y_tl_4169_4.toInt = y_tl_4160_5.toInt + 1 := hp169_7
              have hP : va_P D vwCl [(tl, .inr (10, [.ref tls, .ref o0, .ref p0, .int x_tl_3, .int y_tl_4169_4])), (o0, .inr (5, [.ref o0r, .int x_o0_1])), (o0r, .inl (ct 1, 60000, .inl k_o0r169_5))] _ := hP
              have hD : va_D A [(tl, .inr (10, [.ref tls, .ref o0, .ref p0, .int x_tl_3, .int y_tl_4169_4])), (o0, .inr (5, [.ref o0r, .int x_o0_1])), (o0r, .inl (ct 1, 60000, .inl k_o0r169_5))] := hD
              exact endq_v hQ hx hb hr hlocks dX10_turnMemory_172 (y_tl_4169_4, k_o0r169_5) ⟨hp169_6, (show x_tl_4.toInt + 3 ≤ y_tl_4169_4.toInt ∧ y_tl_4169_4.toInt ≤ x_tl_4.toInt + 6 by have q0 := hp75_8; have q1 := hp90_7; have q2 := hp160_8; have q3 := hp169_7; omega), (show y_tl_4169_4.toInt = x_tl_4.toInt + ((d : Nat) : Int) by have q0 := (eq_and (c := 2) (k := 1) ez132_1 (by decide) (by decide)); have q1 := hk0_5; have q2 := hk0_6; have q3 := hk0_8; have q4 := hk0_9; have q5 := hk4_1; have q6 := hp6_6; have q7 := hk75_1; have q8 := hp75_8; have q9 := hp75_9; have q10 := hp75_10; have q11 := hp90_7; have q12 := t95_2; have q13 := t133_2; have q14 := hk160_1; have q15 := hp160_8; have q16 := hp160_9; have q17 := hp160_10; have q18 := hp169_7; have q19 := (show (0 : Int32).toInt = 0 from by decide); omega)⟩ hP hD hS [0, 1, 2] rfl (by decide) rfl (Nat.le_of_ble_eq_true rfl) (Nat.le_of_ble_eq_true rfl)
            · have t133_2 := (i_ne c133_1)
              have r133_3 : rg z132_1 1 1 := rg_neAl t133_2 r132_2 (show rg (0 : Int32) 0 0 from rg_l (by decide)) (by decide)
              refine lv_aload_n hx hb dX10_turnMemory_136 rfl (lv_at hl 5 rfl) ?_
              refine lv_iload hx hb dX10_turnMemory_137 (lv_at hl 0 rfl) ?_
              refine lv_iconst (v := 5) hx hb dX10_turnMemory_139 (by decide) ?_
              refine lv_lload_n hx hb dX10_turnMemory_140 rfl (lv_at hl 6 rfl) ?_
              refine go_i (k1 := 0) (n1 := 0) (wr := [(tl, .inr (10, [.ref tls, .ref o0, .ref p0, .int x_tl_3, .int y_tl_490_4])), (o0, .inr (5, [.ref o0r, .int x_o0_1])), (o0r, .inl (ct 1, 60000, .inl k_o0r90_5))]) [] [0, 1, 2] (rn_SN (As := [.long v0]) (rest := [.int 5, .int 1, .ref tl]) (c_X7_sOf l D ct v0  _) (cn_of (n := 1) hn mw_989 mw_7 mw_1321 mhX7_sOf ⟨(Nat.le_of_ble_eq_true rfl), (Nat.le_of_ble_eq_true rfl)⟩) hx hb hml hown hn hK hSK hZ hS mw_988 rfl hl.1 (Nat.le_of_ble_eq_true rfl) dX10_turnMemory_141 ⟨(Nat.le_of_ble_eq_true rfl), (Nat.le_of_ble_eq_true rfl)⟩) hP hD hS hA rfl rfl (by decide) (by decide) (by decide) (Nat.le_of_ble_eq_true rfl) (Nat.le_of_ble_eq_true rfl) (fun r141_1 u141_2 H locs hp141_3 hP hD hS => ?_)
              obtain ⟨hp141_4, hp141_5⟩ := hp141_3
              have hp141_4 : rg r141_1 0 15 := hp141_4
              have hp141_5 : r141_1.toInt = (v0.toInt / 4096) % 16 := hp141_5
              have hP : va_P D vwCl [(tl, .inr (10, [.ref tls, .ref o0, .ref p0, .int x_tl_3, .int y_tl_490_4])), (o0, .inr (5, [.ref o0r, .int x_o0_1])), (o0r, .inl (ct 1, 60000, .inl k_o0r90_5))] _ := hP
              have hD : va_D A [(tl, .inr (10, [.ref tls, .ref o0, .ref p0, .int x_tl_3, .int y_tl_490_4])), (o0, .inr (5, [.ref o0r, .int x_o0_1])), (o0r, .inl (ct 1, 60000, .inl k_o0r90_5))] := hD
              refine go_i (k1 := 0) (n1 := 0) (wr := [(tl, .inr (10, [.ref tls, .ref o0, .ref p0, .int x_tl_3, .int y_tl_490_4])), (o0, .inr (5, [.ref o0r, .int x_o0_1])), (o0r, .inl (ct 1, 60000, .inl k_o0r90_5))]) [] [0, 1, 2] (rn_S (As := [.int r141_1]) (rest := [.int 5, .int 1, .ref tl]) (c_X10_placeOf l D ct r141_1  _) (cb_of (n := 1) hn mw_1308 mw_10 mw_1306 mhX10_placeOf ⟨(Nat.le_of_ble_eq_true rfl), (Nat.le_of_ble_eq_true rfl)⟩) hx hb hml hown hn hK hSK hZ hS mw_1307 rfl hl.1 (Nat.le_of_ble_eq_true rfl) dX10_turnMemory_144 ⟨(Nat.le_of_ble_eq_true rfl), (Nat.le_of_ble_eq_true rfl)⟩) hP hD hS hA rfl rfl (by decide) (by decide) (by decide) (Nat.le_of_ble_eq_true rfl) (Nat.le_of_ble_eq_true rfl) (fun r144_1 u144_2 H locs hp144_3 hP hD hS => ?_)
              have hP : va_P D vwCl [(tl, .inr (10, [.ref tls, .ref o0, .ref p0, .int x_tl_3, .int y_tl_490_4])), (o0, .inr (5, [.ref o0r, .int x_o0_1])), (o0r, .inl (ct 1, 60000, .inl k_o0r90_5))] _ := hP
              have hD : va_D A [(tl, .inr (10, [.ref tls, .ref o0, .ref p0, .int x_tl_3, .int y_tl_490_4])), (o0, .inr (5, [.ref o0r, .int x_o0_1])), (o0r, .inl (ct 1, 60000, .inl k_o0r90_5))] := hD
              refine go_v (k1 := 0) (n1 := 0) (wr := []) [0, 1, 2] [] (rn_V (As := [.int 1, .int 5, .int r144_1]) (rest := []) (c_X10_putStore l D ct tl (1 : Int32) (5 : Int32) r144_1 tls o0 p0 x_tl_3 y_tl_490_4 o0r x_o0_1 k_o0r90_5 h_x_tl_3 (rg_of (show 0 ≤ y_tl_490_4.toInt ∧ y_tl_490_4.toInt ≤ 999990 by have q0 := h_x_tl_4.1; have q1 := h_x_tl_4.2; have q2 := hp75_8; have q3 := hp90_7; omega)) h_x_o0_1 _) (cb_of (n := 3) hn mw_1383 mw_10 mw_1380 mhX10_putStore ⟨(Nat.le_of_ble_eq_true rfl), (Nat.le_of_ble_eq_true rfl)⟩) hx hb hml hown hn hK hSK hZ hS mw_1382 mw_s162 (ci := 10) (q0 := 0) rfl rfl rfl rfl hl.1 (Nat.le_of_ble_eq_true rfl) dX10_turnMemory_147 ⟨(Nat.le_of_ble_eq_true rfl), (Nat.le_of_ble_eq_true rfl)⟩) hP hD hS hA rfl rfl (by decide) (by decide) (by decide) (Nat.le_of_ble_eq_true rfl) (Nat.le_of_ble_eq_true rfl) (fun u147_2 H locs hp147_3 hP hD hS => ?_)
              obtain ⟨y_tl_4147_4, k_o0r147_5⟩ := u147_2
              obtain ⟨hp147_6, hp147_7⟩ := hp147_3
              have hp147_6 : rg y_tl_4147_4 1 1000001 := hp147_6
              have hp147_7 : y_tl_4147_4.toInt = y_tl_490_4.toInt + 1 := hp147_7
              have hP : va_P D vwCl [(tl, .inr (10, [.ref tls, .ref o0, .ref p0, .int x_tl_3, .int y_tl_4147_4])), (o0, .inr (5, [.ref o0r, .int x_o0_1])), (o0r, .inl (ct 1, 60000, .inl k_o0r147_5))] _ := hP
              have hD : va_D A [(tl, .inr (10, [.ref tls, .ref o0, .ref p0, .int x_tl_3, .int y_tl_4147_4])), (o0, .inr (5, [.ref o0r, .int x_o0_1])), (o0r, .inl (ct 1, 60000, .inl k_o0r147_5))] := hD
              refine lv_goto (tgt := 172) hx hb dX10_turnMemory_150 (by decide) ?_
              exact endq_v hQ hx hb hr hlocks dX10_turnMemory_172 (y_tl_4147_4, k_o0r147_5) ⟨hp147_6, (show x_tl_4.toInt + 3 ≤ y_tl_4147_4.toInt ∧ y_tl_4147_4.toInt ≤ x_tl_4.toInt + 6 by have q0 := hp75_8; have q1 := hp90_7; have q2 := hp147_7; omega), (show y_tl_4147_4.toInt = x_tl_4.toInt + ((d : Nat) : Int) by have q0 := r133_3.1; have q1 := (eq_and (c := 2) (k := 1) ez132_1 (by decide) (by decide)); have q2 := hk0_4; have q3 := hk0_7; have q4 := hk4_1; have q5 := hk75_1; have q6 := hp75_8; have q7 := hp75_9; have q8 := hp75_10; have q9 := hp90_7; have q10 := hp147_7; omega)⟩ hP hD hS [0, 1, 2] rfl (by decide) rfl (Nat.le_of_ble_eq_true rfl) (Nat.le_of_ble_eq_true rfl)
          · exact absurd (i_ne c95_1) (rg_neX r19_3 (show rg (0 : Int32) 0 0 from rg_l (by decide)) (by decide))
      · have t49_2 := (i_eq c49_1)
        have r49_3 : rg r12_1 4 4 := rg_eqA t49_2 r39_3 (show rg (4 : Int32) 4 4 from rg_l (by decide)) (by decide)
        refine lv_iconst (v := 2) hx hb dX10_turnMemory_52 (by decide) ?_
        refine lv_goto (tgt := 67) hx hb dX10_turnMemory_53 (by decide) ?_
        refine lv_istore (lv' := [(7, .int 2), (6, .int r30_1), (5, .int r12_1), (4, .int r6_1), (3, .int r1_1), (0, .ref tl), (1, .long v0)]) hx hb dX10_turnMemory_67 hl (by decide) rfl (fun ls hl => ?_)
        refine lv_aload_n hx hb dX10_turnMemory_69 rfl (lv_at hl 5 rfl) ?_
        refine lv_iconst (v := 5) hx hb dX10_turnMemory_70 (by decide) ?_
        refine lv_lload_n hx hb dX10_turnMemory_71 rfl (lv_at hl 6 rfl) ?_
        refine go_i (k1 := 0) (n1 := 0) (wr := [(tl, .inr (10, [.ref tls, .ref o0, .ref p0, .int x_tl_3, .int x_tl_4])), (o0, .inr (5, [.ref o0r, .int x_o0_1])), (o0r, .inl (ct 1, 60000, .inl g_o0r))]) [] [0, 1, 2] (rn_SN (As := [.long v0]) (rest := [.int 5, .ref tl]) (c_X7_offOf_w l D ct v0  _) (cn_of (n := 1) hn mw_992 mw_7 mw_1368 mhX7_offOf ⟨(Nat.le_of_ble_eq_true rfl), (Nat.le_of_ble_eq_true rfl)⟩) hx hb hml hown hn hK hSK hZ hS mw_991 rfl hl.1 (Nat.le_of_ble_eq_true rfl) dX10_turnMemory_72 ⟨(Nat.le_of_ble_eq_true rfl), (Nat.le_of_ble_eq_true rfl)⟩) hP hD hS hA rfl rfl (by decide) (by decide) (by decide) (Nat.le_of_ble_eq_true rfl) (Nat.le_of_ble_eq_true rfl) (fun r72_1 u72_2 H locs hp72_3 hP hD hS => ?_)
        obtain ⟨hp72_4, hp72_5⟩ := hp72_3
        have hp72_4 : rg r72_1 (-32768) 32767 := hp72_4
        have hp72_5 : r72_1.toInt = (v0.toInt / 65536 + 32768) % 65536 - 32768 := hp72_5
        have hP : va_P D vwCl [(tl, .inr (10, [.ref tls, .ref o0, .ref p0, .int x_tl_3, .int x_tl_4])), (o0, .inr (5, [.ref o0r, .int x_o0_1])), (o0r, .inl (ct 1, 60000, .inl g_o0r))] _ := hP
        have hD : va_D A [(tl, .inr (10, [.ref tls, .ref o0, .ref p0, .int x_tl_3, .int x_tl_4])), (o0, .inr (5, [.ref o0r, .int x_o0_1])), (o0r, .inl (ct 1, 60000, .inl g_o0r))] := hD
        have hk75_1 : r72_1.toInt = oo.toInt := FF.mk (by have h1 := FF.out hq2; have h2 := FF.out hp72_5; omega)
        refine go_v (k1 := 0) (n1 := 0) (wr := []) [0, 1, 2] [] (rn_V (As := [.int 5, .int r72_1]) (rest := []) (c_X10_putNumber_w l D ct tl (5 : Int32) r72_1 tls o0 p0 x_tl_3 x_tl_4 o0r x_o0_1 g_o0r h_x_tl_3 (rg_w h_x_tl_4 (by decide)) h_x_o0_1 _) (cb_of (n := 2) hn mw_1315 mw_10 mw_1312 mhX10_putNumber ⟨(Nat.le_of_ble_eq_true rfl), (Nat.le_of_ble_eq_true rfl)⟩) hx hb hml hown hn hK hSK hZ hS mw_1314 mw_s148 (ci := 10) (q0 := 0) rfl rfl rfl rfl hl.1 (Nat.le_of_ble_eq_true rfl) dX10_turnMemory_75 ⟨(Nat.le_of_ble_eq_true rfl), (Nat.le_of_ble_eq_true rfl)⟩) hP hD hS hA rfl rfl (by decide) (by decide) (by decide) (Nat.le_of_ble_eq_true rfl) (Nat.le_of_ble_eq_true rfl) (fun u75_3 H locs hp75_4 hP hD hS => ?_)
        obtain ⟨y_tl_475_5, k_o0r75_6⟩ := u75_3
        obtain ⟨hp75_7, hp75_8, hp75_9, hp75_10⟩ := hp75_4
        have hp75_7 : rg y_tl_475_5 1 1000001 := hp75_7
        have hp75_8 : x_tl_4.toInt + 1 ≤ y_tl_475_5.toInt ∧ y_tl_475_5.toInt ≤ x_tl_4.toInt + 2 := hp75_8
        have hp75_9 : -2048 ≤ r72_1.toInt ∧ r72_1.toInt ≤ 2047 → y_tl_475_5.toInt = x_tl_4.toInt + 1 := hp75_9
        have hp75_10 : r72_1.toInt < -2048 ∨ 2047 < r72_1.toInt → y_tl_475_5.toInt = x_tl_4.toInt + 2 := hp75_10
        have hP : va_P D vwCl [(tl, .inr (10, [.ref tls, .ref o0, .ref p0, .int x_tl_3, .int y_tl_475_5])), (o0, .inr (5, [.ref o0r, .int x_o0_1])), (o0r, .inl (ct 1, 60000, .inl k_o0r75_6))] _ := hP
        have hD : va_D A [(tl, .inr (10, [.ref tls, .ref o0, .ref p0, .int x_tl_3, .int y_tl_475_5])), (o0, .inr (5, [.ref o0r, .int x_o0_1])), (o0r, .inl (ct 1, 60000, .inl k_o0r75_6))] := hD
        refine lv_aload_n hx hb dX10_turnMemory_78 rfl (lv_at hl 5 rfl) ?_
        refine lv_bipush (v := 51) hx hb dX10_turnMemory_79 (by decide) ?_
        refine lv_iconst (v := 0) hx hb dX10_turnMemory_81 (by decide) ?_
        refine lv_iconst (v := 0) hx hb dX10_turnMemory_82 (by decide) ?_
        refine lv_iconst (v := 5) hx hb dX10_turnMemory_83 (by decide) ?_
        refine lv_iconst (v := 5) hx hb dX10_turnMemory_84 (by decide) ?_
        refine lv_iload hx hb dX10_turnMemory_85 (lv_at hl 1 rfl) ?_
        refine go_i (k1 := 0) (n1 := 0) (wr := [(tl, .inr (10, [.ref tls, .ref o0, .ref p0, .int x_tl_3, .int y_tl_475_5])), (o0, .inr (5, [.ref o0r, .int x_o0_1])), (o0r, .inl (ct 1, 60000, .inl k_o0r75_6))]) [] [0, 1, 2] (rn_S (As := [.int r30_1]) (rest := [.int 5, .int 5, .int 0, .int 0, .int 51, .ref tl]) (c_X10_placeOf l D ct r30_1  _) (cb_of (n := 1) hn mw_1308 mw_10 mw_1306 mhX10_placeOf ⟨(Nat.le_of_ble_eq_true rfl), (Nat.le_of_ble_eq_true rfl)⟩) hx hb hml hown hn hK hSK hZ hS mw_1307 rfl hl.1 (Nat.le_of_ble_eq_true rfl) dX10_turnMemory_87 ⟨(Nat.le_of_ble_eq_true rfl), (Nat.le_of_ble_eq_true rfl)⟩) hP hD hS hA rfl rfl (by decide) (by decide) (by decide) (Nat.le_of_ble_eq_true rfl) (Nat.le_of_ble_eq_true rfl) (fun r87_1 u87_2 H locs hp87_3 hP hD hS => ?_)
        have hP : va_P D vwCl [(tl, .inr (10, [.ref tls, .ref o0, .ref p0, .int x_tl_3, .int y_tl_475_5])), (o0, .inr (5, [.ref o0r, .int x_o0_1])), (o0r, .inl (ct 1, 60000, .inl k_o0r75_6))] _ := hP
        have hD : va_D A [(tl, .inr (10, [.ref tls, .ref o0, .ref p0, .int x_tl_3, .int y_tl_475_5])), (o0, .inr (5, [.ref o0r, .int x_o0_1])), (o0r, .inl (ct 1, 60000, .inl k_o0r75_6))] := hD
        refine go_v (k1 := 0) (n1 := 0) (wr := []) [0, 1, 2] [] (rn_V (As := [.int 51, .int 0, .int 0, .int 5, .int 5, .int r87_1]) (rest := []) (c_X10_putOp l D ct tl (51 : Int32) (0 : Int32) (0 : Int32) (5 : Int32) (5 : Int32) r87_1 tls o0 p0 x_tl_3 y_tl_475_5 o0r x_o0_1 k_o0r75_6 h_x_tl_3 (rg_of (show 0 ≤ y_tl_475_5.toInt ∧ y_tl_475_5.toInt ≤ 999990 by have q0 := h_x_tl_4.1; have q1 := h_x_tl_4.2; have q2 := hp75_8; omega)) h_x_o0_1 _) (cb_of (n := 6) hn mw_1329 mw_10 mw_1326 mhX10_putOp ⟨(Nat.le_of_ble_eq_true rfl), (Nat.le_of_ble_eq_true rfl)⟩) hx hb hml hown hn hK hSK hZ hS mw_1328 mw_s151 (ci := 10) (q0 := 0) rfl rfl rfl rfl hl.1 (Nat.le_of_ble_eq_true rfl) dX10_turnMemory_90 ⟨(Nat.le_of_ble_eq_true rfl), (Nat.le_of_ble_eq_true rfl)⟩) hP hD hS hA rfl rfl (by decide) (by decide) (by decide) (Nat.le_of_ble_eq_true rfl) (Nat.le_of_ble_eq_true rfl) (fun u90_2 H locs hp90_3 hP hD hS => ?_)
        obtain ⟨y_tl_490_4, k_o0r90_5⟩ := u90_2
        obtain ⟨hp90_6, hp90_7⟩ := hp90_3
        have hp90_6 : rg y_tl_490_4 1 1000001 := hp90_6
        have hp90_7 : y_tl_490_4.toInt = y_tl_475_5.toInt + 1 := hp90_7
        have hP : va_P D vwCl [(tl, .inr (10, [.ref tls, .ref o0, .ref p0, .int x_tl_3, .int y_tl_490_4])), (o0, .inr (5, [.ref o0r, .int x_o0_1])), (o0r, .inl (ct 1, 60000, .inl k_o0r90_5))] _ := hP
        have hD : va_D A [(tl, .inr (10, [.ref tls, .ref o0, .ref p0, .int x_tl_3, .int y_tl_490_4])), (o0, .inr (5, [.ref o0r, .int x_o0_1])), (o0r, .inl (ct 1, 60000, .inl k_o0r90_5))] := hD
        refine lv_iload hx hb dX10_turnMemory_93 (lv_at hl 3 rfl) ?_
        refine lv_if_eq (tgt := 130) hx hb dX10_turnMemory_95 (by decide) (fun c95_1 => ?_) (fun c95_1 => ?_)
        · have t95_2 := (i_eq c95_1)
          refine lv_iload_n hx hb dX10_turnMemory_130 rfl (lv_at hl 4 rfl) ?_
          refine lv_iconst (v := 1) hx hb dX10_turnMemory_131 (by decide) ?_
          refine lv_iand hx hb dX10_turnMemory_132 ?_
          refine lv_topi (fun z132_1 ez132_1 => ?_)
          have r132_2 : rg z132_1 0 1 := rg_andr ez132_1 (show rg (1 : Int32) 1 1 from rg_l (by decide)) (by decide)
          refine lv_if_eq (tgt := 153) hx hb dX10_turnMemory_133 (by decide) (fun c133_1 => ?_) (fun c133_1 => ?_)
          · have t133_2 := (i_eq c133_1)
            have r133_3 : rg z132_1 0 0 := rg_eqA t133_2 r132_2 (show rg (0 : Int32) 0 0 from rg_l (by decide)) (by decide)
            refine lv_aload_n hx hb dX10_turnMemory_153 rfl (lv_at hl 5 rfl) ?_
            refine lv_bipush (v := 6) hx hb dX10_turnMemory_154 (by decide) ?_
            refine lv_lload_n hx hb dX10_turnMemory_156 rfl (lv_at hl 6 rfl) ?_
            refine go_i (k1 := 0) (n1 := 0) (wr := [(tl, .inr (10, [.ref tls, .ref o0, .ref p0, .int x_tl_3, .int y_tl_490_4])), (o0, .inr (5, [.ref o0r, .int x_o0_1])), (o0r, .inl (ct 1, 60000, .inl k_o0r90_5))]) [] [0, 1, 2] (rn_SN (As := [.long v0]) (rest := [.int 6, .ref tl]) (c_X7_kOf_w l D ct v0  _) (cn_of (n := 1) hn mw_995 mw_7 mw_1311 mhX7_kOf ⟨(Nat.le_of_ble_eq_true rfl), (Nat.le_of_ble_eq_true rfl)⟩) hx hb hml hown hn hK hSK hZ hS mw_994 rfl hl.1 (Nat.le_of_ble_eq_true rfl) dX10_turnMemory_157 ⟨(Nat.le_of_ble_eq_true rfl), (Nat.le_of_ble_eq_true rfl)⟩) hP hD hS hA rfl rfl (by decide) (by decide) (by decide) (Nat.le_of_ble_eq_true rfl) (Nat.le_of_ble_eq_true rfl) (fun r157_1 u157_2 H locs hp157_3 hP hD hS => ?_)
            have hp157_4 := hp157_3
            have hp157_4 : r157_1.toInt = v0.toInt / 4294967296 := hp157_4
            have hP : va_P D vwCl [(tl, .inr (10, [.ref tls, .ref o0, .ref p0, .int x_tl_3, .int y_tl_490_4])), (o0, .inr (5, [.ref o0r, .int x_o0_1])), (o0r, .inl (ct 1, 60000, .inl k_o0r90_5))] _ := hP
            have hD : va_D A [(tl, .inr (10, [.ref tls, .ref o0, .ref p0, .int x_tl_3, .int y_tl_490_4])), (o0, .inr (5, [.ref o0r, .int x_o0_1])), (o0r, .inl (ct 1, 60000, .inl k_o0r90_5))] := hD
            have hk160_1 : r157_1.toInt = kk.toInt := FF.mk (by have h1 := FF.out hq1; have h2 := FF.out hp157_4; omega)
            refine go_v (k1 := 0) (n1 := 0) (wr := []) [0, 1, 2] [] (rn_V (As := [.int 6, .int r157_1]) (rest := []) (c_X10_putNumber_w l D ct tl (6 : Int32) r157_1 tls o0 p0 x_tl_3 y_tl_490_4 o0r x_o0_1 k_o0r90_5 h_x_tl_3 (rg_of (show 0 ≤ y_tl_490_4.toInt ∧ y_tl_490_4.toInt ≤ 999950 by have q0 := h_x_tl_4.1; have q1 := h_x_tl_4.2; have q2 := hp75_8; have q3 := hp90_7; omega)) h_x_o0_1 _) (cb_of (n := 2) hn mw_1315 mw_10 mw_1312 mhX10_putNumber ⟨(Nat.le_of_ble_eq_true rfl), (Nat.le_of_ble_eq_true rfl)⟩) hx hb hml hown hn hK hSK hZ hS mw_1314 mw_s148 (ci := 10) (q0 := 0) rfl rfl rfl rfl hl.1 (Nat.le_of_ble_eq_true rfl) dX10_turnMemory_160 ⟨(Nat.le_of_ble_eq_true rfl), (Nat.le_of_ble_eq_true rfl)⟩) hP hD hS hA rfl rfl (by decide) (by decide) (by decide) (Nat.le_of_ble_eq_true rfl) (Nat.le_of_ble_eq_true rfl) (fun u160_3 H locs hp160_4 hP hD hS => ?_)
            obtain ⟨y_tl_4160_5, k_o0r160_6⟩ := u160_3
            obtain ⟨hp160_7, hp160_8, hp160_9, hp160_10⟩ := hp160_4
            have hp160_7 : rg y_tl_4160_5 1 1000001 := hp160_7
            have hp160_8 : y_tl_490_4.toInt + 1 ≤ y_tl_4160_5.toInt ∧ y_tl_4160_5.toInt ≤ y_tl_490_4.toInt + 2 := hp160_8
            have hp160_9 : -2048 ≤ r157_1.toInt ∧ r157_1.toInt ≤ 2047 → y_tl_4160_5.toInt = y_tl_490_4.toInt + 1 := hp160_9
            have hp160_10 : r157_1.toInt < -2048 ∨ 2047 < r157_1.toInt → y_tl_4160_5.toInt = y_tl_490_4.toInt + 2 := hp160_10
            have hP : va_P D vwCl [(tl, .inr (10, [.ref tls, .ref o0, .ref p0, .int x_tl_3, .int y_tl_4160_5])), (o0, .inr (5, [.ref o0r, .int x_o0_1])), (o0r, .inl (ct 1, 60000, .inl k_o0r160_6))] _ := hP
            have hD : va_D A [(tl, .inr (10, [.ref tls, .ref o0, .ref p0, .int x_tl_3, .int y_tl_4160_5])), (o0, .inr (5, [.ref o0r, .int x_o0_1])), (o0r, .inl (ct 1, 60000, .inl k_o0r160_6))] := hD
            refine lv_aload_n hx hb dX10_turnMemory_163 rfl (lv_at hl 5 rfl) ?_
            refine lv_iload hx hb dX10_turnMemory_164 (lv_at hl 0 rfl) ?_
            refine lv_iconst (v := 5) hx hb dX10_turnMemory_166 (by decide) ?_
            refine lv_bipush (v := 6) hx hb dX10_turnMemory_167 (by decide) ?_
            refine go_v (k1 := 0) (n1 := 0) (wr := []) [0, 1, 2] [] (rn_V (As := [.int 2, .int 5, .int 6]) (rest := []) (c_X10_putStore l D ct tl (2 : Int32) (5 : Int32) (6 : Int32) tls o0 p0 x_tl_3 y_tl_4160_5 o0r x_o0_1 k_o0r160_6 h_x_tl_3 (rg_of (show 0 ≤ y_tl_4160_5.toInt ∧ y_tl_4160_5.toInt ≤ 999990 by have q0 := h_x_tl_4.1; have q1 := h_x_tl_4.2; have q2 := hp75_8; have q3 := hp90_7; have q4 := hp160_8; omega)) h_x_o0_1 _) (cb_of (n := 3) hn mw_1383 mw_10 mw_1380 mhX10_putStore ⟨(Nat.le_of_ble_eq_true rfl), (Nat.le_of_ble_eq_true rfl)⟩) hx hb hml hown hn hK hSK hZ hS mw_1382 mw_s162 (ci := 10) (q0 := 0) rfl rfl rfl rfl hl.1 (Nat.le_of_ble_eq_true rfl) dX10_turnMemory_169 ⟨(Nat.le_of_ble_eq_true rfl), (Nat.le_of_ble_eq_true rfl)⟩) hP hD hS hA rfl rfl (by decide) (by decide) (by decide) (Nat.le_of_ble_eq_true rfl) (Nat.le_of_ble_eq_true rfl) (fun u169_2 H locs hp169_3 hP hD hS => ?_)
            obtain ⟨y_tl_4169_4, k_o0r169_5⟩ := u169_2
            obtain ⟨hp169_6, hp169_7⟩ := hp169_3
            have hp169_6 : rg y_tl_4169_4 1 1000001 := hp169_6
            have hp169_7 : y_tl_4169_4.toInt = y_tl_4160_5.toInt + 1 := hp169_7
            have hP : va_P D vwCl [(tl, .inr (10, [.ref tls, .ref o0, .ref p0, .int x_tl_3, .int y_tl_4169_4])), (o0, .inr (5, [.ref o0r, .int x_o0_1])), (o0r, .inl (ct 1, 60000, .inl k_o0r169_5))] _ := hP
            have hD : va_D A [(tl, .inr (10, [.ref tls, .ref o0, .ref p0, .int x_tl_3, .int y_tl_4169_4])), (o0, .inr (5, [.ref o0r, .int x_o0_1])), (o0r, .inl (ct 1, 60000, .inl k_o0r169_5))] := hD
            exact endq_v hQ hx hb hr hlocks dX10_turnMemory_172 (y_tl_4169_4, k_o0r169_5) ⟨hp169_6, (show x_tl_4.toInt + 3 ≤ y_tl_4169_4.toInt ∧ y_tl_4169_4.toInt ≤ x_tl_4.toInt + 6 by have q0 := hp75_8; have q1 := hp90_7; have q2 := hp160_8; have q3 := hp169_7; omega), (show y_tl_4169_4.toInt = x_tl_4.toInt + ((d : Nat) : Int) by have q0 := (eq_and (c := 2) (k := 1) ez132_1 (by decide) (by decide)); have q1 := hk0_5; have q2 := hk0_6; have q3 := hk0_8; have q4 := hk0_9; have q5 := hk4_1; have q6 := hp6_6; have q7 := hk75_1; have q8 := hp75_8; have q9 := hp75_9; have q10 := hp75_10; have q11 := hp90_7; have q12 := t95_2; have q13 := t133_2; have q14 := hk160_1; have q15 := hp160_8; have q16 := hp160_9; have q17 := hp160_10; have q18 := hp169_7; have q19 := (show (0 : Int32).toInt = 0 from by decide); omega)⟩ hP hD hS [0, 1, 2] rfl (by decide) rfl (Nat.le_of_ble_eq_true rfl) (Nat.le_of_ble_eq_true rfl)
          · have t133_2 := (i_ne c133_1)
            have r133_3 : rg z132_1 1 1 := rg_neAl t133_2 r132_2 (show rg (0 : Int32) 0 0 from rg_l (by decide)) (by decide)
            refine lv_aload_n hx hb dX10_turnMemory_136 rfl (lv_at hl 5 rfl) ?_
            refine lv_iload hx hb dX10_turnMemory_137 (lv_at hl 0 rfl) ?_
            refine lv_iconst (v := 5) hx hb dX10_turnMemory_139 (by decide) ?_
            refine lv_lload_n hx hb dX10_turnMemory_140 rfl (lv_at hl 6 rfl) ?_
            refine go_i (k1 := 0) (n1 := 0) (wr := [(tl, .inr (10, [.ref tls, .ref o0, .ref p0, .int x_tl_3, .int y_tl_490_4])), (o0, .inr (5, [.ref o0r, .int x_o0_1])), (o0r, .inl (ct 1, 60000, .inl k_o0r90_5))]) [] [0, 1, 2] (rn_SN (As := [.long v0]) (rest := [.int 5, .int 2, .ref tl]) (c_X7_sOf l D ct v0  _) (cn_of (n := 1) hn mw_989 mw_7 mw_1321 mhX7_sOf ⟨(Nat.le_of_ble_eq_true rfl), (Nat.le_of_ble_eq_true rfl)⟩) hx hb hml hown hn hK hSK hZ hS mw_988 rfl hl.1 (Nat.le_of_ble_eq_true rfl) dX10_turnMemory_141 ⟨(Nat.le_of_ble_eq_true rfl), (Nat.le_of_ble_eq_true rfl)⟩) hP hD hS hA rfl rfl (by decide) (by decide) (by decide) (Nat.le_of_ble_eq_true rfl) (Nat.le_of_ble_eq_true rfl) (fun r141_1 u141_2 H locs hp141_3 hP hD hS => ?_)
            obtain ⟨hp141_4, hp141_5⟩ := hp141_3
            have hp141_4 : rg r141_1 0 15 := hp141_4
            have hp141_5 : r141_1.toInt = (v0.toInt / 4096) % 16 := hp141_5
            have hP : va_P D vwCl [(tl, .inr (10, [.ref tls, .ref o0, .ref p0, .int x_tl_3, .int y_tl_490_4])), (o0, .inr (5, [.ref o0r, .int x_o0_1])), (o0r, .inl (ct 1, 60000, .inl k_o0r90_5))] _ := hP
            have hD : va_D A [(tl, .inr (10, [.ref tls, .ref o0, .ref p0, .int x_tl_3, .int y_tl_490_4])), (o0, .inr (5, [.ref o0r, .int x_o0_1])), (o0r, .inl (ct 1, 60000, .inl k_o0r90_5))] := hD
            refine go_i (k1 := 0) (n1 := 0) (wr := [(tl, .inr (10, [.ref tls, .ref o0, .ref p0, .int x_tl_3, .int y_tl_490_4])), (o0, .inr (5, [.ref o0r, .int x_o0_1])), (o0r, .inl (ct 1, 60000, .inl k_o0r90_5))]) [] [0, 1, 2] (rn_S (As := [.int r141_1]) (rest := [.int 5, .int 2, .ref tl]) (c_X10_placeOf l D ct r141_1  _) (cb_of (n := 1) hn mw_1308 mw_10 mw_1306 mhX10_placeOf ⟨(Nat.le_of_ble_eq_true rfl), (Nat.le_of_ble_eq_true rfl)⟩) hx hb hml hown hn hK hSK hZ hS mw_1307 rfl hl.1 (Nat.le_of_ble_eq_true rfl) dX10_turnMemory_144 ⟨(Nat.le_of_ble_eq_true rfl), (Nat.le_of_ble_eq_true rfl)⟩) hP hD hS hA rfl rfl (by decide) (by decide) (by decide) (Nat.le_of_ble_eq_true rfl) (Nat.le_of_ble_eq_true rfl) (fun r144_1 u144_2 H locs hp144_3 hP hD hS => ?_)
            have hP : va_P D vwCl [(tl, .inr (10, [.ref tls, .ref o0, .ref p0, .int x_tl_3, .int y_tl_490_4])), (o0, .inr (5, [.ref o0r, .int x_o0_1])), (o0r, .inl (ct 1, 60000, .inl k_o0r90_5))] _ := hP
            have hD : va_D A [(tl, .inr (10, [.ref tls, .ref o0, .ref p0, .int x_tl_3, .int y_tl_490_4])), (o0, .inr (5, [.ref o0r, .int x_o0_1])), (o0r, .inl (ct 1, 60000, .inl k_o0r90_5))] := hD
            refine go_v (k1 := 0) (n1 := 0) (wr := []) [0, 1, 2] [] (rn_V (As := [.int 2, .int 5, .int r144_1]) (rest := []) (c_X10_putStore l D ct tl (2 : Int32) (5 : Int32) r144_1 tls o0 p0 x_tl_3 y_tl_490_4 o0r x_o0_1 k_o0r90_5 h_x_tl_3 (rg_of (show 0 ≤ y_tl_490_4.toInt ∧ y_tl_490_4.toInt ≤ 999990 by have q0 := h_x_tl_4.1; have q1 := h_x_tl_4.2; have q2 := hp75_8; have q3 := hp90_7; omega)) h_x_o0_1 _) (cb_of (n := 3) hn mw_1383 mw_10 mw_1380 mhX10_putStore ⟨(Nat.le_of_ble_eq_true rfl), (Nat.le_of_ble_eq_true rfl)⟩) hx hb hml hown hn hK hSK hZ hS mw_1382 mw_s162 (ci := 10) (q0 := 0) rfl rfl rfl rfl hl.1 (Nat.le_of_ble_eq_true rfl) dX10_turnMemory_147 ⟨(Nat.le_of_ble_eq_true rfl), (Nat.le_of_ble_eq_true rfl)⟩) hP hD hS hA rfl rfl (by decide) (by decide) (by decide) (Nat.le_of_ble_eq_true rfl) (Nat.le_of_ble_eq_true rfl) (fun u147_2 H locs hp147_3 hP hD hS => ?_)
            obtain ⟨y_tl_4147_4, k_o0r147_5⟩ := u147_2
            obtain ⟨hp147_6, hp147_7⟩ := hp147_3
            have hp147_6 : rg y_tl_4147_4 1 1000001 := hp147_6
            have hp147_7 : y_tl_4147_4.toInt = y_tl_490_4.toInt + 1 := hp147_7
            have hP : va_P D vwCl [(tl, .inr (10, [.ref tls, .ref o0, .ref p0, .int x_tl_3, .int y_tl_4147_4])), (o0, .inr (5, [.ref o0r, .int x_o0_1])), (o0r, .inl (ct 1, 60000, .inl k_o0r147_5))] _ := hP
            have hD : va_D A [(tl, .inr (10, [.ref tls, .ref o0, .ref p0, .int x_tl_3, .int y_tl_4147_4])), (o0, .inr (5, [.ref o0r, .int x_o0_1])), (o0r, .inl (ct 1, 60000, .inl k_o0r147_5))] := hD
            refine lv_goto (tgt := 172) hx hb dX10_turnMemory_150 (by decide) ?_
            exact endq_v hQ hx hb hr hlocks dX10_turnMemory_172 (y_tl_4147_4, k_o0r147_5) ⟨hp147_6, (show x_tl_4.toInt + 3 ≤ y_tl_4147_4.toInt ∧ y_tl_4147_4.toInt ≤ x_tl_4.toInt + 6 by have q0 := hp75_8; have q1 := hp90_7; have q2 := hp147_7; omega), (show y_tl_4147_4.toInt = x_tl_4.toInt + ((d : Nat) : Int) by have q0 := r133_3.1; have q1 := (eq_and (c := 2) (k := 1) ez132_1 (by decide) (by decide)); have q2 := hk0_4; have q3 := hk0_7; have q4 := hk4_1; have q5 := hk75_1; have q6 := hp75_8; have q7 := hp75_9; have q8 := hp75_10; have q9 := hp90_7; have q10 := hp147_7; omega)⟩ hP hD hS [0, 1, 2] rfl (by decide) rfl (Nat.le_of_ble_eq_true rfl) (Nat.le_of_ble_eq_true rfl)
        · exact absurd (i_ne c95_1) (rg_neX r19_3 (show rg (0 : Int32) 0 0 from rg_l (by decide)) (by decide))
    · have t39_2 := (i_eq c39_1)
      have r39_3 : rg r12_1 8 8 := rg_eqA t39_2 hp12_4 (show rg (8 : Int32) 8 8 from rg_l (by decide)) (by decide)
      refine lv_iconst (v := 3) hx hb dX10_turnMemory_42 (by decide) ?_
      refine lv_goto (tgt := 67) hx hb dX10_turnMemory_43 (by decide) ?_
      refine lv_istore (lv' := [(7, .int 3), (6, .int r30_1), (5, .int r12_1), (4, .int r6_1), (3, .int r1_1), (0, .ref tl), (1, .long v0)]) hx hb dX10_turnMemory_67 hl (by decide) rfl (fun ls hl => ?_)
      refine lv_aload_n hx hb dX10_turnMemory_69 rfl (lv_at hl 5 rfl) ?_
      refine lv_iconst (v := 5) hx hb dX10_turnMemory_70 (by decide) ?_
      refine lv_lload_n hx hb dX10_turnMemory_71 rfl (lv_at hl 6 rfl) ?_
      refine go_i (k1 := 0) (n1 := 0) (wr := [(tl, .inr (10, [.ref tls, .ref o0, .ref p0, .int x_tl_3, .int x_tl_4])), (o0, .inr (5, [.ref o0r, .int x_o0_1])), (o0r, .inl (ct 1, 60000, .inl g_o0r))]) [] [0, 1, 2] (rn_SN (As := [.long v0]) (rest := [.int 5, .ref tl]) (c_X7_offOf_w l D ct v0  _) (cn_of (n := 1) hn mw_992 mw_7 mw_1368 mhX7_offOf ⟨(Nat.le_of_ble_eq_true rfl), (Nat.le_of_ble_eq_true rfl)⟩) hx hb hml hown hn hK hSK hZ hS mw_991 rfl hl.1 (Nat.le_of_ble_eq_true rfl) dX10_turnMemory_72 ⟨(Nat.le_of_ble_eq_true rfl), (Nat.le_of_ble_eq_true rfl)⟩) hP hD hS hA rfl rfl (by decide) (by decide) (by decide) (Nat.le_of_ble_eq_true rfl) (Nat.le_of_ble_eq_true rfl) (fun r72_1 u72_2 H locs hp72_3 hP hD hS => ?_)
      obtain ⟨hp72_4, hp72_5⟩ := hp72_3
      have hp72_4 : rg r72_1 (-32768) 32767 := hp72_4
      have hp72_5 : r72_1.toInt = (v0.toInt / 65536 + 32768) % 65536 - 32768 := hp72_5
      have hP : va_P D vwCl [(tl, .inr (10, [.ref tls, .ref o0, .ref p0, .int x_tl_3, .int x_tl_4])), (o0, .inr (5, [.ref o0r, .int x_o0_1])), (o0r, .inl (ct 1, 60000, .inl g_o0r))] _ := hP
      have hD : va_D A [(tl, .inr (10, [.ref tls, .ref o0, .ref p0, .int x_tl_3, .int x_tl_4])), (o0, .inr (5, [.ref o0r, .int x_o0_1])), (o0r, .inl (ct 1, 60000, .inl g_o0r))] := hD
      have hk75_1 : r72_1.toInt = oo.toInt := FF.mk (by have h1 := FF.out hq2; have h2 := FF.out hp72_5; omega)
      refine go_v (k1 := 0) (n1 := 0) (wr := []) [0, 1, 2] [] (rn_V (As := [.int 5, .int r72_1]) (rest := []) (c_X10_putNumber_w l D ct tl (5 : Int32) r72_1 tls o0 p0 x_tl_3 x_tl_4 o0r x_o0_1 g_o0r h_x_tl_3 (rg_w h_x_tl_4 (by decide)) h_x_o0_1 _) (cb_of (n := 2) hn mw_1315 mw_10 mw_1312 mhX10_putNumber ⟨(Nat.le_of_ble_eq_true rfl), (Nat.le_of_ble_eq_true rfl)⟩) hx hb hml hown hn hK hSK hZ hS mw_1314 mw_s148 (ci := 10) (q0 := 0) rfl rfl rfl rfl hl.1 (Nat.le_of_ble_eq_true rfl) dX10_turnMemory_75 ⟨(Nat.le_of_ble_eq_true rfl), (Nat.le_of_ble_eq_true rfl)⟩) hP hD hS hA rfl rfl (by decide) (by decide) (by decide) (Nat.le_of_ble_eq_true rfl) (Nat.le_of_ble_eq_true rfl) (fun u75_3 H locs hp75_4 hP hD hS => ?_)
      obtain ⟨y_tl_475_5, k_o0r75_6⟩ := u75_3
      obtain ⟨hp75_7, hp75_8, hp75_9, hp75_10⟩ := hp75_4
      have hp75_7 : rg y_tl_475_5 1 1000001 := hp75_7
      have hp75_8 : x_tl_4.toInt + 1 ≤ y_tl_475_5.toInt ∧ y_tl_475_5.toInt ≤ x_tl_4.toInt + 2 := hp75_8
      have hp75_9 : -2048 ≤ r72_1.toInt ∧ r72_1.toInt ≤ 2047 → y_tl_475_5.toInt = x_tl_4.toInt + 1 := hp75_9
      have hp75_10 : r72_1.toInt < -2048 ∨ 2047 < r72_1.toInt → y_tl_475_5.toInt = x_tl_4.toInt + 2 := hp75_10
      have hP : va_P D vwCl [(tl, .inr (10, [.ref tls, .ref o0, .ref p0, .int x_tl_3, .int y_tl_475_5])), (o0, .inr (5, [.ref o0r, .int x_o0_1])), (o0r, .inl (ct 1, 60000, .inl k_o0r75_6))] _ := hP
      have hD : va_D A [(tl, .inr (10, [.ref tls, .ref o0, .ref p0, .int x_tl_3, .int y_tl_475_5])), (o0, .inr (5, [.ref o0r, .int x_o0_1])), (o0r, .inl (ct 1, 60000, .inl k_o0r75_6))] := hD
      refine lv_aload_n hx hb dX10_turnMemory_78 rfl (lv_at hl 5 rfl) ?_
      refine lv_bipush (v := 51) hx hb dX10_turnMemory_79 (by decide) ?_
      refine lv_iconst (v := 0) hx hb dX10_turnMemory_81 (by decide) ?_
      refine lv_iconst (v := 0) hx hb dX10_turnMemory_82 (by decide) ?_
      refine lv_iconst (v := 5) hx hb dX10_turnMemory_83 (by decide) ?_
      refine lv_iconst (v := 5) hx hb dX10_turnMemory_84 (by decide) ?_
      refine lv_iload hx hb dX10_turnMemory_85 (lv_at hl 1 rfl) ?_
      refine go_i (k1 := 0) (n1 := 0) (wr := [(tl, .inr (10, [.ref tls, .ref o0, .ref p0, .int x_tl_3, .int y_tl_475_5])), (o0, .inr (5, [.ref o0r, .int x_o0_1])), (o0r, .inl (ct 1, 60000, .inl k_o0r75_6))]) [] [0, 1, 2] (rn_S (As := [.int r30_1]) (rest := [.int 5, .int 5, .int 0, .int 0, .int 51, .ref tl]) (c_X10_placeOf l D ct r30_1  _) (cb_of (n := 1) hn mw_1308 mw_10 mw_1306 mhX10_placeOf ⟨(Nat.le_of_ble_eq_true rfl), (Nat.le_of_ble_eq_true rfl)⟩) hx hb hml hown hn hK hSK hZ hS mw_1307 rfl hl.1 (Nat.le_of_ble_eq_true rfl) dX10_turnMemory_87 ⟨(Nat.le_of_ble_eq_true rfl), (Nat.le_of_ble_eq_true rfl)⟩) hP hD hS hA rfl rfl (by decide) (by decide) (by decide) (Nat.le_of_ble_eq_true rfl) (Nat.le_of_ble_eq_true rfl) (fun r87_1 u87_2 H locs hp87_3 hP hD hS => ?_)
      have hP : va_P D vwCl [(tl, .inr (10, [.ref tls, .ref o0, .ref p0, .int x_tl_3, .int y_tl_475_5])), (o0, .inr (5, [.ref o0r, .int x_o0_1])), (o0r, .inl (ct 1, 60000, .inl k_o0r75_6))] _ := hP
      have hD : va_D A [(tl, .inr (10, [.ref tls, .ref o0, .ref p0, .int x_tl_3, .int y_tl_475_5])), (o0, .inr (5, [.ref o0r, .int x_o0_1])), (o0r, .inl (ct 1, 60000, .inl k_o0r75_6))] := hD
      refine go_v (k1 := 0) (n1 := 0) (wr := []) [0, 1, 2] [] (rn_V (As := [.int 51, .int 0, .int 0, .int 5, .int 5, .int r87_1]) (rest := []) (c_X10_putOp l D ct tl (51 : Int32) (0 : Int32) (0 : Int32) (5 : Int32) (5 : Int32) r87_1 tls o0 p0 x_tl_3 y_tl_475_5 o0r x_o0_1 k_o0r75_6 h_x_tl_3 (rg_of (show 0 ≤ y_tl_475_5.toInt ∧ y_tl_475_5.toInt ≤ 999990 by have q0 := h_x_tl_4.1; have q1 := h_x_tl_4.2; have q2 := hp75_8; omega)) h_x_o0_1 _) (cb_of (n := 6) hn mw_1329 mw_10 mw_1326 mhX10_putOp ⟨(Nat.le_of_ble_eq_true rfl), (Nat.le_of_ble_eq_true rfl)⟩) hx hb hml hown hn hK hSK hZ hS mw_1328 mw_s151 (ci := 10) (q0 := 0) rfl rfl rfl rfl hl.1 (Nat.le_of_ble_eq_true rfl) dX10_turnMemory_90 ⟨(Nat.le_of_ble_eq_true rfl), (Nat.le_of_ble_eq_true rfl)⟩) hP hD hS hA rfl rfl (by decide) (by decide) (by decide) (Nat.le_of_ble_eq_true rfl) (Nat.le_of_ble_eq_true rfl) (fun u90_2 H locs hp90_3 hP hD hS => ?_)
      obtain ⟨y_tl_490_4, k_o0r90_5⟩ := u90_2
      obtain ⟨hp90_6, hp90_7⟩ := hp90_3
      have hp90_6 : rg y_tl_490_4 1 1000001 := hp90_6
      have hp90_7 : y_tl_490_4.toInt = y_tl_475_5.toInt + 1 := hp90_7
      have hP : va_P D vwCl [(tl, .inr (10, [.ref tls, .ref o0, .ref p0, .int x_tl_3, .int y_tl_490_4])), (o0, .inr (5, [.ref o0r, .int x_o0_1])), (o0r, .inl (ct 1, 60000, .inl k_o0r90_5))] _ := hP
      have hD : va_D A [(tl, .inr (10, [.ref tls, .ref o0, .ref p0, .int x_tl_3, .int y_tl_490_4])), (o0, .inr (5, [.ref o0r, .int x_o0_1])), (o0r, .inl (ct 1, 60000, .inl k_o0r90_5))] := hD
      refine lv_iload hx hb dX10_turnMemory_93 (lv_at hl 3 rfl) ?_
      refine lv_if_eq (tgt := 130) hx hb dX10_turnMemory_95 (by decide) (fun c95_1 => ?_) (fun c95_1 => ?_)
      · have t95_2 := (i_eq c95_1)
        refine lv_iload_n hx hb dX10_turnMemory_130 rfl (lv_at hl 4 rfl) ?_
        refine lv_iconst (v := 1) hx hb dX10_turnMemory_131 (by decide) ?_
        refine lv_iand hx hb dX10_turnMemory_132 ?_
        refine lv_topi (fun z132_1 ez132_1 => ?_)
        have r132_2 : rg z132_1 0 1 := rg_andr ez132_1 (show rg (1 : Int32) 1 1 from rg_l (by decide)) (by decide)
        refine lv_if_eq (tgt := 153) hx hb dX10_turnMemory_133 (by decide) (fun c133_1 => ?_) (fun c133_1 => ?_)
        · have t133_2 := (i_eq c133_1)
          have r133_3 : rg z132_1 0 0 := rg_eqA t133_2 r132_2 (show rg (0 : Int32) 0 0 from rg_l (by decide)) (by decide)
          refine lv_aload_n hx hb dX10_turnMemory_153 rfl (lv_at hl 5 rfl) ?_
          refine lv_bipush (v := 6) hx hb dX10_turnMemory_154 (by decide) ?_
          refine lv_lload_n hx hb dX10_turnMemory_156 rfl (lv_at hl 6 rfl) ?_
          refine go_i (k1 := 0) (n1 := 0) (wr := [(tl, .inr (10, [.ref tls, .ref o0, .ref p0, .int x_tl_3, .int y_tl_490_4])), (o0, .inr (5, [.ref o0r, .int x_o0_1])), (o0r, .inl (ct 1, 60000, .inl k_o0r90_5))]) [] [0, 1, 2] (rn_SN (As := [.long v0]) (rest := [.int 6, .ref tl]) (c_X7_kOf_w l D ct v0  _) (cn_of (n := 1) hn mw_995 mw_7 mw_1311 mhX7_kOf ⟨(Nat.le_of_ble_eq_true rfl), (Nat.le_of_ble_eq_true rfl)⟩) hx hb hml hown hn hK hSK hZ hS mw_994 rfl hl.1 (Nat.le_of_ble_eq_true rfl) dX10_turnMemory_157 ⟨(Nat.le_of_ble_eq_true rfl), (Nat.le_of_ble_eq_true rfl)⟩) hP hD hS hA rfl rfl (by decide) (by decide) (by decide) (Nat.le_of_ble_eq_true rfl) (Nat.le_of_ble_eq_true rfl) (fun r157_1 u157_2 H locs hp157_3 hP hD hS => ?_)
          have hp157_4 := hp157_3
          have hp157_4 : r157_1.toInt = v0.toInt / 4294967296 := hp157_4
          have hP : va_P D vwCl [(tl, .inr (10, [.ref tls, .ref o0, .ref p0, .int x_tl_3, .int y_tl_490_4])), (o0, .inr (5, [.ref o0r, .int x_o0_1])), (o0r, .inl (ct 1, 60000, .inl k_o0r90_5))] _ := hP
          have hD : va_D A [(tl, .inr (10, [.ref tls, .ref o0, .ref p0, .int x_tl_3, .int y_tl_490_4])), (o0, .inr (5, [.ref o0r, .int x_o0_1])), (o0r, .inl (ct 1, 60000, .inl k_o0r90_5))] := hD
          have hk160_1 : r157_1.toInt = kk.toInt := FF.mk (by have h1 := FF.out hq1; have h2 := FF.out hp157_4; omega)
          refine go_v (k1 := 0) (n1 := 0) (wr := []) [0, 1, 2] [] (rn_V (As := [.int 6, .int r157_1]) (rest := []) (c_X10_putNumber_w l D ct tl (6 : Int32) r157_1 tls o0 p0 x_tl_3 y_tl_490_4 o0r x_o0_1 k_o0r90_5 h_x_tl_3 (rg_of (show 0 ≤ y_tl_490_4.toInt ∧ y_tl_490_4.toInt ≤ 999950 by have q0 := h_x_tl_4.1; have q1 := h_x_tl_4.2; have q2 := hp75_8; have q3 := hp90_7; omega)) h_x_o0_1 _) (cb_of (n := 2) hn mw_1315 mw_10 mw_1312 mhX10_putNumber ⟨(Nat.le_of_ble_eq_true rfl), (Nat.le_of_ble_eq_true rfl)⟩) hx hb hml hown hn hK hSK hZ hS mw_1314 mw_s148 (ci := 10) (q0 := 0) rfl rfl rfl rfl hl.1 (Nat.le_of_ble_eq_true rfl) dX10_turnMemory_160 ⟨(Nat.le_of_ble_eq_true rfl), (Nat.le_of_ble_eq_true rfl)⟩) hP hD hS hA rfl rfl (by decide) (by decide) (by decide) (Nat.le_of_ble_eq_true rfl) (Nat.le_of_ble_eq_true rfl) (fun u160_3 H locs hp160_4 hP hD hS => ?_)
          obtain ⟨y_tl_4160_5, k_o0r160_6⟩ := u160_3
          obtain ⟨hp160_7, hp160_8, hp160_9, hp160_10⟩ := hp160_4
          have hp160_7 : rg y_tl_4160_5 1 1000001 := hp160_7
          have hp160_8 : y_tl_490_4.toInt + 1 ≤ y_tl_4160_5.toInt ∧ y_tl_4160_5.toInt ≤ y_tl_490_4.toInt + 2 := hp160_8
          have hp160_9 : -2048 ≤ r157_1.toInt ∧ r157_1.toInt ≤ 2047 → y_tl_4160_5.toInt = y_tl_490_4.toInt + 1 := hp160_9
          have hp160_10 : r157_1.toInt < -2048 ∨ 2047 < r157_1.toInt → y_tl_4160_5.toInt = y_tl_490_4.toInt + 2 := hp160_10
          have hP : va_P D vwCl [(tl, .inr (10, [.ref tls, .ref o0, .ref p0, .int x_tl_3, .int y_tl_4160_5])), (o0, .inr (5, [.ref o0r, .int x_o0_1])), (o0r, .inl (ct 1, 60000, .inl k_o0r160_6))] _ := hP
          have hD : va_D A [(tl, .inr (10, [.ref tls, .ref o0, .ref p0, .int x_tl_3, .int y_tl_4160_5])), (o0, .inr (5, [.ref o0r, .int x_o0_1])), (o0r, .inl (ct 1, 60000, .inl k_o0r160_6))] := hD
          refine lv_aload_n hx hb dX10_turnMemory_163 rfl (lv_at hl 5 rfl) ?_
          refine lv_iload hx hb dX10_turnMemory_164 (lv_at hl 0 rfl) ?_
          refine lv_iconst (v := 5) hx hb dX10_turnMemory_166 (by decide) ?_
          refine lv_bipush (v := 6) hx hb dX10_turnMemory_167 (by decide) ?_
          refine go_v (k1 := 0) (n1 := 0) (wr := []) [0, 1, 2] [] (rn_V (As := [.int 3, .int 5, .int 6]) (rest := []) (c_X10_putStore l D ct tl (3 : Int32) (5 : Int32) (6 : Int32) tls o0 p0 x_tl_3 y_tl_4160_5 o0r x_o0_1 k_o0r160_6 h_x_tl_3 (rg_of (show 0 ≤ y_tl_4160_5.toInt ∧ y_tl_4160_5.toInt ≤ 999990 by have q0 := h_x_tl_4.1; have q1 := h_x_tl_4.2; have q2 := hp75_8; have q3 := hp90_7; have q4 := hp160_8; omega)) h_x_o0_1 _) (cb_of (n := 3) hn mw_1383 mw_10 mw_1380 mhX10_putStore ⟨(Nat.le_of_ble_eq_true rfl), (Nat.le_of_ble_eq_true rfl)⟩) hx hb hml hown hn hK hSK hZ hS mw_1382 mw_s162 (ci := 10) (q0 := 0) rfl rfl rfl rfl hl.1 (Nat.le_of_ble_eq_true rfl) dX10_turnMemory_169 ⟨(Nat.le_of_ble_eq_true rfl), (Nat.le_of_ble_eq_true rfl)⟩) hP hD hS hA rfl rfl (by decide) (by decide) (by decide) (Nat.le_of_ble_eq_true rfl) (Nat.le_of_ble_eq_true rfl) (fun u169_2 H locs hp169_3 hP hD hS => ?_)
          obtain ⟨y_tl_4169_4, k_o0r169_5⟩ := u169_2
          obtain ⟨hp169_6, hp169_7⟩ := hp169_3
          have hp169_6 : rg y_tl_4169_4 1 1000001 := hp169_6
          have hp169_7 : y_tl_4169_4.toInt = y_tl_4160_5.toInt + 1 := hp169_7
          have hP : va_P D vwCl [(tl, .inr (10, [.ref tls, .ref o0, .ref p0, .int x_tl_3, .int y_tl_4169_4])), (o0, .inr (5, [.ref o0r, .int x_o0_1])), (o0r, .inl (ct 1, 60000, .inl k_o0r169_5))] _ := hP
          have hD : va_D A [(tl, .inr (10, [.ref tls, .ref o0, .ref p0, .int x_tl_3, .int y_tl_4169_4])), (o0, .inr (5, [.ref o0r, .int x_o0_1])), (o0r, .inl (ct 1, 60000, .inl k_o0r169_5))] := hD
          exact endq_v hQ hx hb hr hlocks dX10_turnMemory_172 (y_tl_4169_4, k_o0r169_5) ⟨hp169_6, (show x_tl_4.toInt + 3 ≤ y_tl_4169_4.toInt ∧ y_tl_4169_4.toInt ≤ x_tl_4.toInt + 6 by have q0 := hp75_8; have q1 := hp90_7; have q2 := hp160_8; have q3 := hp169_7; omega), (show y_tl_4169_4.toInt = x_tl_4.toInt + ((d : Nat) : Int) by have q0 := (eq_and (c := 2) (k := 1) ez132_1 (by decide) (by decide)); have q1 := hk0_5; have q2 := hk0_6; have q3 := hk0_8; have q4 := hk0_9; have q5 := hk4_1; have q6 := hp6_6; have q7 := hk75_1; have q8 := hp75_8; have q9 := hp75_9; have q10 := hp75_10; have q11 := hp90_7; have q12 := t95_2; have q13 := t133_2; have q14 := hk160_1; have q15 := hp160_8; have q16 := hp160_9; have q17 := hp160_10; have q18 := hp169_7; have q19 := (show (0 : Int32).toInt = 0 from by decide); omega)⟩ hP hD hS [0, 1, 2] rfl (by decide) rfl (Nat.le_of_ble_eq_true rfl) (Nat.le_of_ble_eq_true rfl)
        · have t133_2 := (i_ne c133_1)
          have r133_3 : rg z132_1 1 1 := rg_neAl t133_2 r132_2 (show rg (0 : Int32) 0 0 from rg_l (by decide)) (by decide)
          refine lv_aload_n hx hb dX10_turnMemory_136 rfl (lv_at hl 5 rfl) ?_
          refine lv_iload hx hb dX10_turnMemory_137 (lv_at hl 0 rfl) ?_
          refine lv_iconst (v := 5) hx hb dX10_turnMemory_139 (by decide) ?_
          refine lv_lload_n hx hb dX10_turnMemory_140 rfl (lv_at hl 6 rfl) ?_
          refine go_i (k1 := 0) (n1 := 0) (wr := [(tl, .inr (10, [.ref tls, .ref o0, .ref p0, .int x_tl_3, .int y_tl_490_4])), (o0, .inr (5, [.ref o0r, .int x_o0_1])), (o0r, .inl (ct 1, 60000, .inl k_o0r90_5))]) [] [0, 1, 2] (rn_SN (As := [.long v0]) (rest := [.int 5, .int 3, .ref tl]) (c_X7_sOf l D ct v0  _) (cn_of (n := 1) hn mw_989 mw_7 mw_1321 mhX7_sOf ⟨(Nat.le_of_ble_eq_true rfl), (Nat.le_of_ble_eq_true rfl)⟩) hx hb hml hown hn hK hSK hZ hS mw_988 rfl hl.1 (Nat.le_of_ble_eq_true rfl) dX10_turnMemory_141 ⟨(Nat.le_of_ble_eq_true rfl), (Nat.le_of_ble_eq_true rfl)⟩) hP hD hS hA rfl rfl (by decide) (by decide) (by decide) (Nat.le_of_ble_eq_true rfl) (Nat.le_of_ble_eq_true rfl) (fun r141_1 u141_2 H locs hp141_3 hP hD hS => ?_)
          obtain ⟨hp141_4, hp141_5⟩ := hp141_3
          have hp141_4 : rg r141_1 0 15 := hp141_4
          have hp141_5 : r141_1.toInt = (v0.toInt / 4096) % 16 := hp141_5
          have hP : va_P D vwCl [(tl, .inr (10, [.ref tls, .ref o0, .ref p0, .int x_tl_3, .int y_tl_490_4])), (o0, .inr (5, [.ref o0r, .int x_o0_1])), (o0r, .inl (ct 1, 60000, .inl k_o0r90_5))] _ := hP
          have hD : va_D A [(tl, .inr (10, [.ref tls, .ref o0, .ref p0, .int x_tl_3, .int y_tl_490_4])), (o0, .inr (5, [.ref o0r, .int x_o0_1])), (o0r, .inl (ct 1, 60000, .inl k_o0r90_5))] := hD
          refine go_i (k1 := 0) (n1 := 0) (wr := [(tl, .inr (10, [.ref tls, .ref o0, .ref p0, .int x_tl_3, .int y_tl_490_4])), (o0, .inr (5, [.ref o0r, .int x_o0_1])), (o0r, .inl (ct 1, 60000, .inl k_o0r90_5))]) [] [0, 1, 2] (rn_S (As := [.int r141_1]) (rest := [.int 5, .int 3, .ref tl]) (c_X10_placeOf l D ct r141_1  _) (cb_of (n := 1) hn mw_1308 mw_10 mw_1306 mhX10_placeOf ⟨(Nat.le_of_ble_eq_true rfl), (Nat.le_of_ble_eq_true rfl)⟩) hx hb hml hown hn hK hSK hZ hS mw_1307 rfl hl.1 (Nat.le_of_ble_eq_true rfl) dX10_turnMemory_144 ⟨(Nat.le_of_ble_eq_true rfl), (Nat.le_of_ble_eq_true rfl)⟩) hP hD hS hA rfl rfl (by decide) (by decide) (by decide) (Nat.le_of_ble_eq_true rfl) (Nat.le_of_ble_eq_true rfl) (fun r144_1 u144_2 H locs hp144_3 hP hD hS => ?_)
          have hP : va_P D vwCl [(tl, .inr (10, [.ref tls, .ref o0, .ref p0, .int x_tl_3, .int y_tl_490_4])), (o0, .inr (5, [.ref o0r, .int x_o0_1])), (o0r, .inl (ct 1, 60000, .inl k_o0r90_5))] _ := hP
          have hD : va_D A [(tl, .inr (10, [.ref tls, .ref o0, .ref p0, .int x_tl_3, .int y_tl_490_4])), (o0, .inr (5, [.ref o0r, .int x_o0_1])), (o0r, .inl (ct 1, 60000, .inl k_o0r90_5))] := hD
          refine go_v (k1 := 0) (n1 := 0) (wr := []) [0, 1, 2] [] (rn_V (As := [.int 3, .int 5, .int r144_1]) (rest := []) (c_X10_putStore l D ct tl (3 : Int32) (5 : Int32) r144_1 tls o0 p0 x_tl_3 y_tl_490_4 o0r x_o0_1 k_o0r90_5 h_x_tl_3 (rg_of (show 0 ≤ y_tl_490_4.toInt ∧ y_tl_490_4.toInt ≤ 999990 by have q0 := h_x_tl_4.1; have q1 := h_x_tl_4.2; have q2 := hp75_8; have q3 := hp90_7; omega)) h_x_o0_1 _) (cb_of (n := 3) hn mw_1383 mw_10 mw_1380 mhX10_putStore ⟨(Nat.le_of_ble_eq_true rfl), (Nat.le_of_ble_eq_true rfl)⟩) hx hb hml hown hn hK hSK hZ hS mw_1382 mw_s162 (ci := 10) (q0 := 0) rfl rfl rfl rfl hl.1 (Nat.le_of_ble_eq_true rfl) dX10_turnMemory_147 ⟨(Nat.le_of_ble_eq_true rfl), (Nat.le_of_ble_eq_true rfl)⟩) hP hD hS hA rfl rfl (by decide) (by decide) (by decide) (Nat.le_of_ble_eq_true rfl) (Nat.le_of_ble_eq_true rfl) (fun u147_2 H locs hp147_3 hP hD hS => ?_)
          obtain ⟨y_tl_4147_4, k_o0r147_5⟩ := u147_2
          obtain ⟨hp147_6, hp147_7⟩ := hp147_3
          have hp147_6 : rg y_tl_4147_4 1 1000001 := hp147_6
          have hp147_7 : y_tl_4147_4.toInt = y_tl_490_4.toInt + 1 := hp147_7
          have hP : va_P D vwCl [(tl, .inr (10, [.ref tls, .ref o0, .ref p0, .int x_tl_3, .int y_tl_4147_4])), (o0, .inr (5, [.ref o0r, .int x_o0_1])), (o0r, .inl (ct 1, 60000, .inl k_o0r147_5))] _ := hP
          have hD : va_D A [(tl, .inr (10, [.ref tls, .ref o0, .ref p0, .int x_tl_3, .int y_tl_4147_4])), (o0, .inr (5, [.ref o0r, .int x_o0_1])), (o0r, .inl (ct 1, 60000, .inl k_o0r147_5))] := hD
          refine lv_goto (tgt := 172) hx hb dX10_turnMemory_150 (by decide) ?_
          exact endq_v hQ hx hb hr hlocks dX10_turnMemory_172 (y_tl_4147_4, k_o0r147_5) ⟨hp147_6, (show x_tl_4.toInt + 3 ≤ y_tl_4147_4.toInt ∧ y_tl_4147_4.toInt ≤ x_tl_4.toInt + 6 by have q0 := hp75_8; have q1 := hp90_7; have q2 := hp147_7; omega), (show y_tl_4147_4.toInt = x_tl_4.toInt + ((d : Nat) : Int) by have q0 := r133_3.1; have q1 := (eq_and (c := 2) (k := 1) ez132_1 (by decide) (by decide)); have q2 := hk0_4; have q3 := hk0_7; have q4 := hk4_1; have q5 := hk75_1; have q6 := hp75_8; have q7 := hp75_9; have q8 := hp75_10; have q9 := hp90_7; have q10 := hp147_7; omega)⟩ hP hD hS [0, 1, 2] rfl (by decide) rfl (Nat.le_of_ble_eq_true rfl) (Nat.le_of_ble_eq_true rfl)
      · exact absurd (i_ne c95_1) (rg_neX r19_3 (show rg (0 : Int32) 0 0 from rg_l (by decide)) (by decide))
  · have t19_2 := (i_ne c19_1)
    have r19_3 : rg r6_1 1 1 := rg_neAl t19_2 hp6_4 (show rg (0 : Int32) 0 0 from rg_l (by decide)) (by decide)
    refine lv_lload_n hx hb dX10_turnMemory_22 rfl (lv_at hl 4 rfl) ?_
    refine go_i (k1 := 0) (n1 := 0) (wr := [(tl, .inr (10, [.ref tls, .ref o0, .ref p0, .int x_tl_3, .int x_tl_4])), (o0, .inr (5, [.ref o0r, .int x_o0_1])), (o0r, .inl (ct 1, 60000, .inl g_o0r))]) [] [0, 1, 2] (rn_SN (As := [.long v0]) (rest := []) (c_X7_sOf l D ct v0  _) (cn_of (n := 1) hn mw_989 mw_7 mw_1321 mhX7_sOf ⟨(Nat.le_of_ble_eq_true rfl), (Nat.le_of_ble_eq_true rfl)⟩) hx hb hml hown hn hK hSK hZ hS mw_988 rfl hl.1 (Nat.le_of_ble_eq_true rfl) dX10_turnMemory_23 ⟨(Nat.le_of_ble_eq_true rfl), (Nat.le_of_ble_eq_true rfl)⟩) hP hD hS hA rfl rfl (by decide) (by decide) (by decide) (Nat.le_of_ble_eq_true rfl) (Nat.le_of_ble_eq_true rfl) (fun r23_1 u23_2 H locs hp23_3 hP hD hS => ?_)
    obtain ⟨hp23_4, hp23_5⟩ := hp23_3
    have hp23_4 : rg r23_1 0 15 := hp23_4
    have hp23_5 : r23_1.toInt = (v0.toInt / 4096) % 16 := hp23_5
    have hP : va_P D vwCl [(tl, .inr (10, [.ref tls, .ref o0, .ref p0, .int x_tl_3, .int x_tl_4])), (o0, .inr (5, [.ref o0r, .int x_o0_1])), (o0r, .inl (ct 1, 60000, .inl g_o0r))] _ := hP
    have hD : va_D A [(tl, .inr (10, [.ref tls, .ref o0, .ref p0, .int x_tl_3, .int x_tl_4])), (o0, .inr (5, [.ref o0r, .int x_o0_1])), (o0r, .inl (ct 1, 60000, .inl g_o0r))] := hD
    refine lv_goto (tgt := 33) hx hb dX10_turnMemory_26 (by decide) ?_
    refine lv_istore (lv' := [(6, .int r23_1), (5, .int r12_1), (4, .int r6_1), (3, .int r1_1), (0, .ref tl), (1, .long v0)]) hx hb dX10_turnMemory_33 hl (by decide) rfl (fun ls hl => ?_)
    refine lv_iload hx hb dX10_turnMemory_35 (lv_at hl 1 rfl) ?_
    refine lv_bipush (v := 8) hx hb dX10_turnMemory_37 (by decide) ?_
    refine lv_icmp_ne (tgt := 46) hx hb dX10_turnMemory_39 (by decide) (fun c39_1 => ?_) (fun c39_1 => ?_)
    · have t39_2 := (i_ne c39_1)
      have r39_3 : rg r12_1 1 7 := rg_neAh t39_2 hp12_4 (show rg (8 : Int32) 8 8 from rg_l (by decide)) (by decide)
      refine lv_iload hx hb dX10_turnMemory_46 (lv_at hl 1 rfl) ?_
      refine lv_iconst (v := 4) hx hb dX10_turnMemory_48 (by decide) ?_
      refine lv_icmp_ne (tgt := 56) hx hb dX10_turnMemory_49 (by decide) (fun c49_1 => ?_) (fun c49_1 => ?_)
      · have t49_2 := (i_ne c49_1)
        refine lv_iload hx hb dX10_turnMemory_56 (lv_at hl 1 rfl) ?_
        refine lv_iconst (v := 2) hx hb dX10_turnMemory_58 (by decide) ?_
        refine lv_icmp_ne (tgt := 66) hx hb dX10_turnMemory_59 (by decide) (fun c59_1 => ?_) (fun c59_1 => ?_)
        · have t59_2 := (i_ne c59_1)
          refine lv_iconst (v := 0) hx hb dX10_turnMemory_66 (by decide) ?_
          refine lv_istore (lv' := [(7, .int 0), (6, .int r23_1), (5, .int r12_1), (4, .int r6_1), (3, .int r1_1), (0, .ref tl), (1, .long v0)]) hx hb dX10_turnMemory_67 hl (by decide) rfl (fun ls hl => ?_)
          refine lv_aload_n hx hb dX10_turnMemory_69 rfl (lv_at hl 5 rfl) ?_
          refine lv_iconst (v := 5) hx hb dX10_turnMemory_70 (by decide) ?_
          refine lv_lload_n hx hb dX10_turnMemory_71 rfl (lv_at hl 6 rfl) ?_
          refine go_i (k1 := 0) (n1 := 0) (wr := [(tl, .inr (10, [.ref tls, .ref o0, .ref p0, .int x_tl_3, .int x_tl_4])), (o0, .inr (5, [.ref o0r, .int x_o0_1])), (o0r, .inl (ct 1, 60000, .inl g_o0r))]) [] [0, 1, 2] (rn_SN (As := [.long v0]) (rest := [.int 5, .ref tl]) (c_X7_offOf_w l D ct v0  _) (cn_of (n := 1) hn mw_992 mw_7 mw_1368 mhX7_offOf ⟨(Nat.le_of_ble_eq_true rfl), (Nat.le_of_ble_eq_true rfl)⟩) hx hb hml hown hn hK hSK hZ hS mw_991 rfl hl.1 (Nat.le_of_ble_eq_true rfl) dX10_turnMemory_72 ⟨(Nat.le_of_ble_eq_true rfl), (Nat.le_of_ble_eq_true rfl)⟩) hP hD hS hA rfl rfl (by decide) (by decide) (by decide) (Nat.le_of_ble_eq_true rfl) (Nat.le_of_ble_eq_true rfl) (fun r72_1 u72_2 H locs hp72_3 hP hD hS => ?_)
          obtain ⟨hp72_4, hp72_5⟩ := hp72_3
          have hp72_4 : rg r72_1 (-32768) 32767 := hp72_4
          have hp72_5 : r72_1.toInt = (v0.toInt / 65536 + 32768) % 65536 - 32768 := hp72_5
          have hP : va_P D vwCl [(tl, .inr (10, [.ref tls, .ref o0, .ref p0, .int x_tl_3, .int x_tl_4])), (o0, .inr (5, [.ref o0r, .int x_o0_1])), (o0r, .inl (ct 1, 60000, .inl g_o0r))] _ := hP
          have hD : va_D A [(tl, .inr (10, [.ref tls, .ref o0, .ref p0, .int x_tl_3, .int x_tl_4])), (o0, .inr (5, [.ref o0r, .int x_o0_1])), (o0r, .inl (ct 1, 60000, .inl g_o0r))] := hD
          have hk75_1 : r72_1.toInt = oo.toInt := FF.mk (by have h1 := FF.out hq2; have h2 := FF.out hp72_5; omega)
          refine go_v (k1 := 0) (n1 := 0) (wr := []) [0, 1, 2] [] (rn_V (As := [.int 5, .int r72_1]) (rest := []) (c_X10_putNumber_w l D ct tl (5 : Int32) r72_1 tls o0 p0 x_tl_3 x_tl_4 o0r x_o0_1 g_o0r h_x_tl_3 (rg_w h_x_tl_4 (by decide)) h_x_o0_1 _) (cb_of (n := 2) hn mw_1315 mw_10 mw_1312 mhX10_putNumber ⟨(Nat.le_of_ble_eq_true rfl), (Nat.le_of_ble_eq_true rfl)⟩) hx hb hml hown hn hK hSK hZ hS mw_1314 mw_s148 (ci := 10) (q0 := 0) rfl rfl rfl rfl hl.1 (Nat.le_of_ble_eq_true rfl) dX10_turnMemory_75 ⟨(Nat.le_of_ble_eq_true rfl), (Nat.le_of_ble_eq_true rfl)⟩) hP hD hS hA rfl rfl (by decide) (by decide) (by decide) (Nat.le_of_ble_eq_true rfl) (Nat.le_of_ble_eq_true rfl) (fun u75_3 H locs hp75_4 hP hD hS => ?_)
          obtain ⟨y_tl_475_5, k_o0r75_6⟩ := u75_3
          obtain ⟨hp75_7, hp75_8, hp75_9, hp75_10⟩ := hp75_4
          have hp75_7 : rg y_tl_475_5 1 1000001 := hp75_7
          have hp75_8 : x_tl_4.toInt + 1 ≤ y_tl_475_5.toInt ∧ y_tl_475_5.toInt ≤ x_tl_4.toInt + 2 := hp75_8
          have hp75_9 : -2048 ≤ r72_1.toInt ∧ r72_1.toInt ≤ 2047 → y_tl_475_5.toInt = x_tl_4.toInt + 1 := hp75_9
          have hp75_10 : r72_1.toInt < -2048 ∨ 2047 < r72_1.toInt → y_tl_475_5.toInt = x_tl_4.toInt + 2 := hp75_10
          have hP : va_P D vwCl [(tl, .inr (10, [.ref tls, .ref o0, .ref p0, .int x_tl_3, .int y_tl_475_5])), (o0, .inr (5, [.ref o0r, .int x_o0_1])), (o0r, .inl (ct 1, 60000, .inl k_o0r75_6))] _ := hP
          have hD : va_D A [(tl, .inr (10, [.ref tls, .ref o0, .ref p0, .int x_tl_3, .int y_tl_475_5])), (o0, .inr (5, [.ref o0r, .int x_o0_1])), (o0r, .inl (ct 1, 60000, .inl k_o0r75_6))] := hD
          refine lv_aload_n hx hb dX10_turnMemory_78 rfl (lv_at hl 5 rfl) ?_
          refine lv_bipush (v := 51) hx hb dX10_turnMemory_79 (by decide) ?_
          refine lv_iconst (v := 0) hx hb dX10_turnMemory_81 (by decide) ?_
          refine lv_iconst (v := 0) hx hb dX10_turnMemory_82 (by decide) ?_
          refine lv_iconst (v := 5) hx hb dX10_turnMemory_83 (by decide) ?_
          refine lv_iconst (v := 5) hx hb dX10_turnMemory_84 (by decide) ?_
          refine lv_iload hx hb dX10_turnMemory_85 (lv_at hl 1 rfl) ?_
          refine go_i (k1 := 0) (n1 := 0) (wr := [(tl, .inr (10, [.ref tls, .ref o0, .ref p0, .int x_tl_3, .int y_tl_475_5])), (o0, .inr (5, [.ref o0r, .int x_o0_1])), (o0r, .inl (ct 1, 60000, .inl k_o0r75_6))]) [] [0, 1, 2] (rn_S (As := [.int r23_1]) (rest := [.int 5, .int 5, .int 0, .int 0, .int 51, .ref tl]) (c_X10_placeOf l D ct r23_1  _) (cb_of (n := 1) hn mw_1308 mw_10 mw_1306 mhX10_placeOf ⟨(Nat.le_of_ble_eq_true rfl), (Nat.le_of_ble_eq_true rfl)⟩) hx hb hml hown hn hK hSK hZ hS mw_1307 rfl hl.1 (Nat.le_of_ble_eq_true rfl) dX10_turnMemory_87 ⟨(Nat.le_of_ble_eq_true rfl), (Nat.le_of_ble_eq_true rfl)⟩) hP hD hS hA rfl rfl (by decide) (by decide) (by decide) (Nat.le_of_ble_eq_true rfl) (Nat.le_of_ble_eq_true rfl) (fun r87_1 u87_2 H locs hp87_3 hP hD hS => ?_)
          have hP : va_P D vwCl [(tl, .inr (10, [.ref tls, .ref o0, .ref p0, .int x_tl_3, .int y_tl_475_5])), (o0, .inr (5, [.ref o0r, .int x_o0_1])), (o0r, .inl (ct 1, 60000, .inl k_o0r75_6))] _ := hP
          have hD : va_D A [(tl, .inr (10, [.ref tls, .ref o0, .ref p0, .int x_tl_3, .int y_tl_475_5])), (o0, .inr (5, [.ref o0r, .int x_o0_1])), (o0r, .inl (ct 1, 60000, .inl k_o0r75_6))] := hD
          refine go_v (k1 := 0) (n1 := 0) (wr := []) [0, 1, 2] [] (rn_V (As := [.int 51, .int 0, .int 0, .int 5, .int 5, .int r87_1]) (rest := []) (c_X10_putOp l D ct tl (51 : Int32) (0 : Int32) (0 : Int32) (5 : Int32) (5 : Int32) r87_1 tls o0 p0 x_tl_3 y_tl_475_5 o0r x_o0_1 k_o0r75_6 h_x_tl_3 (rg_of (show 0 ≤ y_tl_475_5.toInt ∧ y_tl_475_5.toInt ≤ 999990 by have q0 := h_x_tl_4.1; have q1 := h_x_tl_4.2; have q2 := hp75_8; omega)) h_x_o0_1 _) (cb_of (n := 6) hn mw_1329 mw_10 mw_1326 mhX10_putOp ⟨(Nat.le_of_ble_eq_true rfl), (Nat.le_of_ble_eq_true rfl)⟩) hx hb hml hown hn hK hSK hZ hS mw_1328 mw_s151 (ci := 10) (q0 := 0) rfl rfl rfl rfl hl.1 (Nat.le_of_ble_eq_true rfl) dX10_turnMemory_90 ⟨(Nat.le_of_ble_eq_true rfl), (Nat.le_of_ble_eq_true rfl)⟩) hP hD hS hA rfl rfl (by decide) (by decide) (by decide) (Nat.le_of_ble_eq_true rfl) (Nat.le_of_ble_eq_true rfl) (fun u90_2 H locs hp90_3 hP hD hS => ?_)
          obtain ⟨y_tl_490_4, k_o0r90_5⟩ := u90_2
          obtain ⟨hp90_6, hp90_7⟩ := hp90_3
          have hp90_6 : rg y_tl_490_4 1 1000001 := hp90_6
          have hp90_7 : y_tl_490_4.toInt = y_tl_475_5.toInt + 1 := hp90_7
          have hP : va_P D vwCl [(tl, .inr (10, [.ref tls, .ref o0, .ref p0, .int x_tl_3, .int y_tl_490_4])), (o0, .inr (5, [.ref o0r, .int x_o0_1])), (o0r, .inl (ct 1, 60000, .inl k_o0r90_5))] _ := hP
          have hD : va_D A [(tl, .inr (10, [.ref tls, .ref o0, .ref p0, .int x_tl_3, .int y_tl_490_4])), (o0, .inr (5, [.ref o0r, .int x_o0_1])), (o0r, .inl (ct 1, 60000, .inl k_o0r90_5))] := hD
          refine lv_iload hx hb dX10_turnMemory_93 (lv_at hl 3 rfl) ?_
          refine lv_if_eq (tgt := 130) hx hb dX10_turnMemory_95 (by decide) (fun c95_1 => ?_) (fun c95_1 => ?_)
          · exact absurd (i_eq c95_1) (rg_eqX r19_3 (show rg (0 : Int32) 0 0 from rg_l (by decide)) (by decide))
          · have t95_2 := (i_ne c95_1)
            refine lv_aload_n hx hb dX10_turnMemory_98 rfl (lv_at hl 5 rfl) ?_
            refine lv_iconst (v := 3) hx hb dX10_turnMemory_99 (by decide) ?_
            refine lv_iload hx hb dX10_turnMemory_100 (lv_at hl 2 rfl) ?_
            refine lv_bipush (v := 8) hx hb dX10_turnMemory_102 (by decide) ?_
            refine lv_icmp_ne (tgt := 111) hx hb dX10_turnMemory_104 (by decide) (fun c104_1 => ?_) (fun c104_1 => ?_)
            · have t104_2 := (i_ne c104_1)
              refine lv_iload hx hb dX10_turnMemory_111 (lv_at hl 0 rfl) ?_
              refine lv_iconst (v := 4) hx hb dX10_turnMemory_113 (by decide) ?_
              refine lv_iadd hx hb dX10_turnMemory_114 ?_
              refine top_c (v := 4) (by decide) ?_
              refine lv_lload_n hx hb dX10_turnMemory_115 rfl (lv_at hl 6 rfl) ?_
              refine go_i (k1 := 0) (n1 := 0) (wr := [(tl, .inr (10, [.ref tls, .ref o0, .ref p0, .int x_tl_3, .int y_tl_490_4])), (o0, .inr (5, [.ref o0r, .int x_o0_1])), (o0r, .inl (ct 1, 60000, .inl k_o0r90_5))]) [] [0, 1, 2] (rn_SN (As := [.long v0]) (rest := [.int 4, .int 3, .ref tl]) (c_X7_dOf l D ct v0  _) (cn_of (n := 1) hn mw_986 mw_7 mw_1305 mhX7_dOf ⟨(Nat.le_of_ble_eq_true rfl), (Nat.le_of_ble_eq_true rfl)⟩) hx hb hml hown hn hK hSK hZ hS mw_985 rfl hl.1 (Nat.le_of_ble_eq_true rfl) dX10_turnMemory_116 ⟨(Nat.le_of_ble_eq_true rfl), (Nat.le_of_ble_eq_true rfl)⟩) hP hD hS hA rfl rfl (by decide) (by decide) (by decide) (Nat.le_of_ble_eq_true rfl) (Nat.le_of_ble_eq_true rfl) (fun r116_1 u116_2 H locs hp116_3 hP hD hS => ?_)
              obtain ⟨hp116_4, hp116_5⟩ := hp116_3
              have hp116_4 : rg r116_1 0 15 := hp116_4
              have hp116_5 : r116_1.toInt = (v0.toInt / 256) % 16 := hp116_5
              have hP : va_P D vwCl [(tl, .inr (10, [.ref tls, .ref o0, .ref p0, .int x_tl_3, .int y_tl_490_4])), (o0, .inr (5, [.ref o0r, .int x_o0_1])), (o0r, .inl (ct 1, 60000, .inl k_o0r90_5))] _ := hP
              have hD : va_D A [(tl, .inr (10, [.ref tls, .ref o0, .ref p0, .int x_tl_3, .int y_tl_490_4])), (o0, .inr (5, [.ref o0r, .int x_o0_1])), (o0r, .inl (ct 1, 60000, .inl k_o0r90_5))] := hD
              refine go_i (k1 := 0) (n1 := 0) (wr := [(tl, .inr (10, [.ref tls, .ref o0, .ref p0, .int x_tl_3, .int y_tl_490_4])), (o0, .inr (5, [.ref o0r, .int x_o0_1])), (o0r, .inl (ct 1, 60000, .inl k_o0r90_5))]) [] [0, 1, 2] (rn_S (As := [.int r116_1]) (rest := [.int 4, .int 3, .ref tl]) (c_X10_placeOf l D ct r116_1  _) (cb_of (n := 1) hn mw_1308 mw_10 mw_1306 mhX10_placeOf ⟨(Nat.le_of_ble_eq_true rfl), (Nat.le_of_ble_eq_true rfl)⟩) hx hb hml hown hn hK hSK hZ hS mw_1307 rfl hl.1 (Nat.le_of_ble_eq_true rfl) dX10_turnMemory_119 ⟨(Nat.le_of_ble_eq_true rfl), (Nat.le_of_ble_eq_true rfl)⟩) hP hD hS hA rfl rfl (by decide) (by decide) (by decide) (Nat.le_of_ble_eq_true rfl) (Nat.le_of_ble_eq_true rfl) (fun r119_1 u119_2 H locs hp119_3 hP hD hS => ?_)
              have hP : va_P D vwCl [(tl, .inr (10, [.ref tls, .ref o0, .ref p0, .int x_tl_3, .int y_tl_490_4])), (o0, .inr (5, [.ref o0r, .int x_o0_1])), (o0r, .inl (ct 1, 60000, .inl k_o0r90_5))] _ := hP
              have hD : va_D A [(tl, .inr (10, [.ref tls, .ref o0, .ref p0, .int x_tl_3, .int y_tl_490_4])), (o0, .inr (5, [.ref o0r, .int x_o0_1])), (o0r, .inl (ct 1, 60000, .inl k_o0r90_5))] := hD
              refine lv_iconst (v := 5) hx hb dX10_turnMemory_122 (by decide) ?_
              refine lv_iconst (v := 0) hx hb dX10_turnMemory_123 (by decide) ?_
              refine go_v (k1 := 0) (n1 := 0) (wr := []) [0, 1, 2] [] (rn_V (As := [.int 3, .int 4, .int r119_1, .int 5, .int 0]) (rest := []) (c_X10_putImm l D ct tl (3 : Int32) (4 : Int32) r119_1 (5 : Int32) (0 : Int32) tls o0 p0 x_tl_3 y_tl_490_4 o0r x_o0_1 k_o0r90_5 h_x_tl_3 (rg_of (show 0 ≤ y_tl_490_4.toInt ∧ y_tl_490_4.toInt ≤ 999990 by have q0 := h_x_tl_4.1; have q1 := h_x_tl_4.2; have q2 := hp75_8; have q3 := hp90_7; omega)) h_x_o0_1 _) (cb_of (n := 5) hn mw_1341 mw_10 mw_1338 mhX10_putImm ⟨(Nat.le_of_ble_eq_true rfl), (Nat.le_of_ble_eq_true rfl)⟩) hx hb hml hown hn hK hSK hZ hS mw_1340 mw_s154 (ci := 10) (q0 := 0) rfl rfl rfl rfl hl.1 (Nat.le_of_ble_eq_true rfl) dX10_turnMemory_124 ⟨(Nat.le_of_ble_eq_true rfl), (Nat.le_of_ble_eq_true rfl)⟩) hP hD hS hA rfl rfl (by decide) (by decide) (by decide) (Nat.le_of_ble_eq_true rfl) (Nat.le_of_ble_eq_true rfl) (fun u124_2 H locs hp124_3 hP hD hS => ?_)
              obtain ⟨y_tl_4124_4, k_o0r124_5⟩ := u124_2
              obtain ⟨hp124_6, hp124_7⟩ := hp124_3
              have hp124_6 : rg y_tl_4124_4 1 1000001 := hp124_6
              have hp124_7 : y_tl_4124_4.toInt = y_tl_490_4.toInt + 1 := hp124_7
              have hP : va_P D vwCl [(tl, .inr (10, [.ref tls, .ref o0, .ref p0, .int x_tl_3, .int y_tl_4124_4])), (o0, .inr (5, [.ref o0r, .int x_o0_1])), (o0r, .inl (ct 1, 60000, .inl k_o0r124_5))] _ := hP
              have hD : va_D A [(tl, .inr (10, [.ref tls, .ref o0, .ref p0, .int x_tl_3, .int y_tl_4124_4])), (o0, .inr (5, [.ref o0r, .int x_o0_1])), (o0r, .inl (ct 1, 60000, .inl k_o0r124_5))] := hD
              refine lv_goto (tgt := 172) hx hb dX10_turnMemory_127 (by decide) ?_
              exact endq_v hQ hx hb hr hlocks dX10_turnMemory_172 (y_tl_4124_4, k_o0r124_5) ⟨hp124_6, (show x_tl_4.toInt + 3 ≤ y_tl_4124_4.toInt ∧ y_tl_4124_4.toInt ≤ x_tl_4.toInt + 6 by have q0 := hp75_8; have q1 := hp90_7; have q2 := hp124_7; omega), (show y_tl_4124_4.toInt = x_tl_4.toInt + ((d : Nat) : Int) by have q0 := r19_3.1; have q1 := r19_3.2; have q2 := hk0_4; have q3 := hk0_7; have q4 := hk4_1; have q5 := hp6_5; have q6 := hk75_1; have q7 := hp75_8; have q8 := hp75_9; have q9 := hp75_10; have q10 := hp90_7; have q11 := hp124_7; omega)⟩ hP hD hS [0, 1, 2] rfl (by decide) rfl (Nat.le_of_ble_eq_true rfl) (Nat.le_of_ble_eq_true rfl)
            · exact absurd (i_eq c104_1) (rg_eqX r39_3 (show rg (8 : Int32) 8 8 from rg_l (by decide)) (by decide))
        · have t59_2 := (i_eq c59_1)
          have r59_3 : rg r12_1 2 2 := rg_eqA t59_2 r39_3 (show rg (2 : Int32) 2 2 from rg_l (by decide)) (by decide)
          refine lv_iconst (v := 1) hx hb dX10_turnMemory_62 (by decide) ?_
          refine lv_goto (tgt := 67) hx hb dX10_turnMemory_63 (by decide) ?_
          refine lv_istore (lv' := [(7, .int 1), (6, .int r23_1), (5, .int r12_1), (4, .int r6_1), (3, .int r1_1), (0, .ref tl), (1, .long v0)]) hx hb dX10_turnMemory_67 hl (by decide) rfl (fun ls hl => ?_)
          refine lv_aload_n hx hb dX10_turnMemory_69 rfl (lv_at hl 5 rfl) ?_
          refine lv_iconst (v := 5) hx hb dX10_turnMemory_70 (by decide) ?_
          refine lv_lload_n hx hb dX10_turnMemory_71 rfl (lv_at hl 6 rfl) ?_
          refine go_i (k1 := 0) (n1 := 0) (wr := [(tl, .inr (10, [.ref tls, .ref o0, .ref p0, .int x_tl_3, .int x_tl_4])), (o0, .inr (5, [.ref o0r, .int x_o0_1])), (o0r, .inl (ct 1, 60000, .inl g_o0r))]) [] [0, 1, 2] (rn_SN (As := [.long v0]) (rest := [.int 5, .ref tl]) (c_X7_offOf_w l D ct v0  _) (cn_of (n := 1) hn mw_992 mw_7 mw_1368 mhX7_offOf ⟨(Nat.le_of_ble_eq_true rfl), (Nat.le_of_ble_eq_true rfl)⟩) hx hb hml hown hn hK hSK hZ hS mw_991 rfl hl.1 (Nat.le_of_ble_eq_true rfl) dX10_turnMemory_72 ⟨(Nat.le_of_ble_eq_true rfl), (Nat.le_of_ble_eq_true rfl)⟩) hP hD hS hA rfl rfl (by decide) (by decide) (by decide) (Nat.le_of_ble_eq_true rfl) (Nat.le_of_ble_eq_true rfl) (fun r72_1 u72_2 H locs hp72_3 hP hD hS => ?_)
          obtain ⟨hp72_4, hp72_5⟩ := hp72_3
          have hp72_4 : rg r72_1 (-32768) 32767 := hp72_4
          have hp72_5 : r72_1.toInt = (v0.toInt / 65536 + 32768) % 65536 - 32768 := hp72_5
          have hP : va_P D vwCl [(tl, .inr (10, [.ref tls, .ref o0, .ref p0, .int x_tl_3, .int x_tl_4])), (o0, .inr (5, [.ref o0r, .int x_o0_1])), (o0r, .inl (ct 1, 60000, .inl g_o0r))] _ := hP
          have hD : va_D A [(tl, .inr (10, [.ref tls, .ref o0, .ref p0, .int x_tl_3, .int x_tl_4])), (o0, .inr (5, [.ref o0r, .int x_o0_1])), (o0r, .inl (ct 1, 60000, .inl g_o0r))] := hD
          have hk75_1 : r72_1.toInt = oo.toInt := FF.mk (by have h1 := FF.out hq2; have h2 := FF.out hp72_5; omega)
          refine go_v (k1 := 0) (n1 := 0) (wr := []) [0, 1, 2] [] (rn_V (As := [.int 5, .int r72_1]) (rest := []) (c_X10_putNumber_w l D ct tl (5 : Int32) r72_1 tls o0 p0 x_tl_3 x_tl_4 o0r x_o0_1 g_o0r h_x_tl_3 (rg_w h_x_tl_4 (by decide)) h_x_o0_1 _) (cb_of (n := 2) hn mw_1315 mw_10 mw_1312 mhX10_putNumber ⟨(Nat.le_of_ble_eq_true rfl), (Nat.le_of_ble_eq_true rfl)⟩) hx hb hml hown hn hK hSK hZ hS mw_1314 mw_s148 (ci := 10) (q0 := 0) rfl rfl rfl rfl hl.1 (Nat.le_of_ble_eq_true rfl) dX10_turnMemory_75 ⟨(Nat.le_of_ble_eq_true rfl), (Nat.le_of_ble_eq_true rfl)⟩) hP hD hS hA rfl rfl (by decide) (by decide) (by decide) (Nat.le_of_ble_eq_true rfl) (Nat.le_of_ble_eq_true rfl) (fun u75_3 H locs hp75_4 hP hD hS => ?_)
          obtain ⟨y_tl_475_5, k_o0r75_6⟩ := u75_3
          obtain ⟨hp75_7, hp75_8, hp75_9, hp75_10⟩ := hp75_4
          have hp75_7 : rg y_tl_475_5 1 1000001 := hp75_7
          have hp75_8 : x_tl_4.toInt + 1 ≤ y_tl_475_5.toInt ∧ y_tl_475_5.toInt ≤ x_tl_4.toInt + 2 := hp75_8
          have hp75_9 : -2048 ≤ r72_1.toInt ∧ r72_1.toInt ≤ 2047 → y_tl_475_5.toInt = x_tl_4.toInt + 1 := hp75_9
          have hp75_10 : r72_1.toInt < -2048 ∨ 2047 < r72_1.toInt → y_tl_475_5.toInt = x_tl_4.toInt + 2 := hp75_10
          have hP : va_P D vwCl [(tl, .inr (10, [.ref tls, .ref o0, .ref p0, .int x_tl_3, .int y_tl_475_5])), (o0, .inr (5, [.ref o0r, .int x_o0_1])), (o0r, .inl (ct 1, 60000, .inl k_o0r75_6))] _ := hP
          have hD : va_D A [(tl, .inr (10, [.ref tls, .ref o0, .ref p0, .int x_tl_3, .int y_tl_475_5])), (o0, .inr (5, [.ref o0r, .int x_o0_1])), (o0r, .inl (ct 1, 60000, .inl k_o0r75_6))] := hD
          refine lv_aload_n hx hb dX10_turnMemory_78 rfl (lv_at hl 5 rfl) ?_
          refine lv_bipush (v := 51) hx hb dX10_turnMemory_79 (by decide) ?_
          refine lv_iconst (v := 0) hx hb dX10_turnMemory_81 (by decide) ?_
          refine lv_iconst (v := 0) hx hb dX10_turnMemory_82 (by decide) ?_
          refine lv_iconst (v := 5) hx hb dX10_turnMemory_83 (by decide) ?_
          refine lv_iconst (v := 5) hx hb dX10_turnMemory_84 (by decide) ?_
          refine lv_iload hx hb dX10_turnMemory_85 (lv_at hl 1 rfl) ?_
          refine go_i (k1 := 0) (n1 := 0) (wr := [(tl, .inr (10, [.ref tls, .ref o0, .ref p0, .int x_tl_3, .int y_tl_475_5])), (o0, .inr (5, [.ref o0r, .int x_o0_1])), (o0r, .inl (ct 1, 60000, .inl k_o0r75_6))]) [] [0, 1, 2] (rn_S (As := [.int r23_1]) (rest := [.int 5, .int 5, .int 0, .int 0, .int 51, .ref tl]) (c_X10_placeOf l D ct r23_1  _) (cb_of (n := 1) hn mw_1308 mw_10 mw_1306 mhX10_placeOf ⟨(Nat.le_of_ble_eq_true rfl), (Nat.le_of_ble_eq_true rfl)⟩) hx hb hml hown hn hK hSK hZ hS mw_1307 rfl hl.1 (Nat.le_of_ble_eq_true rfl) dX10_turnMemory_87 ⟨(Nat.le_of_ble_eq_true rfl), (Nat.le_of_ble_eq_true rfl)⟩) hP hD hS hA rfl rfl (by decide) (by decide) (by decide) (Nat.le_of_ble_eq_true rfl) (Nat.le_of_ble_eq_true rfl) (fun r87_1 u87_2 H locs hp87_3 hP hD hS => ?_)
          have hP : va_P D vwCl [(tl, .inr (10, [.ref tls, .ref o0, .ref p0, .int x_tl_3, .int y_tl_475_5])), (o0, .inr (5, [.ref o0r, .int x_o0_1])), (o0r, .inl (ct 1, 60000, .inl k_o0r75_6))] _ := hP
          have hD : va_D A [(tl, .inr (10, [.ref tls, .ref o0, .ref p0, .int x_tl_3, .int y_tl_475_5])), (o0, .inr (5, [.ref o0r, .int x_o0_1])), (o0r, .inl (ct 1, 60000, .inl k_o0r75_6))] := hD
          refine go_v (k1 := 0) (n1 := 0) (wr := []) [0, 1, 2] [] (rn_V (As := [.int 51, .int 0, .int 0, .int 5, .int 5, .int r87_1]) (rest := []) (c_X10_putOp l D ct tl (51 : Int32) (0 : Int32) (0 : Int32) (5 : Int32) (5 : Int32) r87_1 tls o0 p0 x_tl_3 y_tl_475_5 o0r x_o0_1 k_o0r75_6 h_x_tl_3 (rg_of (show 0 ≤ y_tl_475_5.toInt ∧ y_tl_475_5.toInt ≤ 999990 by have q0 := h_x_tl_4.1; have q1 := h_x_tl_4.2; have q2 := hp75_8; omega)) h_x_o0_1 _) (cb_of (n := 6) hn mw_1329 mw_10 mw_1326 mhX10_putOp ⟨(Nat.le_of_ble_eq_true rfl), (Nat.le_of_ble_eq_true rfl)⟩) hx hb hml hown hn hK hSK hZ hS mw_1328 mw_s151 (ci := 10) (q0 := 0) rfl rfl rfl rfl hl.1 (Nat.le_of_ble_eq_true rfl) dX10_turnMemory_90 ⟨(Nat.le_of_ble_eq_true rfl), (Nat.le_of_ble_eq_true rfl)⟩) hP hD hS hA rfl rfl (by decide) (by decide) (by decide) (Nat.le_of_ble_eq_true rfl) (Nat.le_of_ble_eq_true rfl) (fun u90_2 H locs hp90_3 hP hD hS => ?_)
          obtain ⟨y_tl_490_4, k_o0r90_5⟩ := u90_2
          obtain ⟨hp90_6, hp90_7⟩ := hp90_3
          have hp90_6 : rg y_tl_490_4 1 1000001 := hp90_6
          have hp90_7 : y_tl_490_4.toInt = y_tl_475_5.toInt + 1 := hp90_7
          have hP : va_P D vwCl [(tl, .inr (10, [.ref tls, .ref o0, .ref p0, .int x_tl_3, .int y_tl_490_4])), (o0, .inr (5, [.ref o0r, .int x_o0_1])), (o0r, .inl (ct 1, 60000, .inl k_o0r90_5))] _ := hP
          have hD : va_D A [(tl, .inr (10, [.ref tls, .ref o0, .ref p0, .int x_tl_3, .int y_tl_490_4])), (o0, .inr (5, [.ref o0r, .int x_o0_1])), (o0r, .inl (ct 1, 60000, .inl k_o0r90_5))] := hD
          refine lv_iload hx hb dX10_turnMemory_93 (lv_at hl 3 rfl) ?_
          refine lv_if_eq (tgt := 130) hx hb dX10_turnMemory_95 (by decide) (fun c95_1 => ?_) (fun c95_1 => ?_)
          · exact absurd (i_eq c95_1) (rg_eqX r19_3 (show rg (0 : Int32) 0 0 from rg_l (by decide)) (by decide))
          · have t95_2 := (i_ne c95_1)
            refine lv_aload_n hx hb dX10_turnMemory_98 rfl (lv_at hl 5 rfl) ?_
            refine lv_iconst (v := 3) hx hb dX10_turnMemory_99 (by decide) ?_
            refine lv_iload hx hb dX10_turnMemory_100 (lv_at hl 2 rfl) ?_
            refine lv_bipush (v := 8) hx hb dX10_turnMemory_102 (by decide) ?_
            refine lv_icmp_ne (tgt := 111) hx hb dX10_turnMemory_104 (by decide) (fun c104_1 => ?_) (fun c104_1 => ?_)
            · have t104_2 := (i_ne c104_1)
              refine lv_iload hx hb dX10_turnMemory_111 (lv_at hl 0 rfl) ?_
              refine lv_iconst (v := 4) hx hb dX10_turnMemory_113 (by decide) ?_
              refine lv_iadd hx hb dX10_turnMemory_114 ?_
              refine top_c (v := 5) (by decide) ?_
              refine lv_lload_n hx hb dX10_turnMemory_115 rfl (lv_at hl 6 rfl) ?_
              refine go_i (k1 := 0) (n1 := 0) (wr := [(tl, .inr (10, [.ref tls, .ref o0, .ref p0, .int x_tl_3, .int y_tl_490_4])), (o0, .inr (5, [.ref o0r, .int x_o0_1])), (o0r, .inl (ct 1, 60000, .inl k_o0r90_5))]) [] [0, 1, 2] (rn_SN (As := [.long v0]) (rest := [.int 5, .int 3, .ref tl]) (c_X7_dOf l D ct v0  _) (cn_of (n := 1) hn mw_986 mw_7 mw_1305 mhX7_dOf ⟨(Nat.le_of_ble_eq_true rfl), (Nat.le_of_ble_eq_true rfl)⟩) hx hb hml hown hn hK hSK hZ hS mw_985 rfl hl.1 (Nat.le_of_ble_eq_true rfl) dX10_turnMemory_116 ⟨(Nat.le_of_ble_eq_true rfl), (Nat.le_of_ble_eq_true rfl)⟩) hP hD hS hA rfl rfl (by decide) (by decide) (by decide) (Nat.le_of_ble_eq_true rfl) (Nat.le_of_ble_eq_true rfl) (fun r116_1 u116_2 H locs hp116_3 hP hD hS => ?_)
              obtain ⟨hp116_4, hp116_5⟩ := hp116_3
              have hp116_4 : rg r116_1 0 15 := hp116_4
              have hp116_5 : r116_1.toInt = (v0.toInt / 256) % 16 := hp116_5
              have hP : va_P D vwCl [(tl, .inr (10, [.ref tls, .ref o0, .ref p0, .int x_tl_3, .int y_tl_490_4])), (o0, .inr (5, [.ref o0r, .int x_o0_1])), (o0r, .inl (ct 1, 60000, .inl k_o0r90_5))] _ := hP
              have hD : va_D A [(tl, .inr (10, [.ref tls, .ref o0, .ref p0, .int x_tl_3, .int y_tl_490_4])), (o0, .inr (5, [.ref o0r, .int x_o0_1])), (o0r, .inl (ct 1, 60000, .inl k_o0r90_5))] := hD
              refine go_i (k1 := 0) (n1 := 0) (wr := [(tl, .inr (10, [.ref tls, .ref o0, .ref p0, .int x_tl_3, .int y_tl_490_4])), (o0, .inr (5, [.ref o0r, .int x_o0_1])), (o0r, .inl (ct 1, 60000, .inl k_o0r90_5))]) [] [0, 1, 2] (rn_S (As := [.int r116_1]) (rest := [.int 5, .int 3, .ref tl]) (c_X10_placeOf l D ct r116_1  _) (cb_of (n := 1) hn mw_1308 mw_10 mw_1306 mhX10_placeOf ⟨(Nat.le_of_ble_eq_true rfl), (Nat.le_of_ble_eq_true rfl)⟩) hx hb hml hown hn hK hSK hZ hS mw_1307 rfl hl.1 (Nat.le_of_ble_eq_true rfl) dX10_turnMemory_119 ⟨(Nat.le_of_ble_eq_true rfl), (Nat.le_of_ble_eq_true rfl)⟩) hP hD hS hA rfl rfl (by decide) (by decide) (by decide) (Nat.le_of_ble_eq_true rfl) (Nat.le_of_ble_eq_true rfl) (fun r119_1 u119_2 H locs hp119_3 hP hD hS => ?_)
              have hP : va_P D vwCl [(tl, .inr (10, [.ref tls, .ref o0, .ref p0, .int x_tl_3, .int y_tl_490_4])), (o0, .inr (5, [.ref o0r, .int x_o0_1])), (o0r, .inl (ct 1, 60000, .inl k_o0r90_5))] _ := hP
              have hD : va_D A [(tl, .inr (10, [.ref tls, .ref o0, .ref p0, .int x_tl_3, .int y_tl_490_4])), (o0, .inr (5, [.ref o0r, .int x_o0_1])), (o0r, .inl (ct 1, 60000, .inl k_o0r90_5))] := hD
              refine lv_iconst (v := 5) hx hb dX10_turnMemory_122 (by decide) ?_
              refine lv_iconst (v := 0) hx hb dX10_turnMemory_123 (by decide) ?_
              refine go_v (k1 := 0) (n1 := 0) (wr := []) [0, 1, 2] [] (rn_V (As := [.int 3, .int 5, .int r119_1, .int 5, .int 0]) (rest := []) (c_X10_putImm l D ct tl (3 : Int32) (5 : Int32) r119_1 (5 : Int32) (0 : Int32) tls o0 p0 x_tl_3 y_tl_490_4 o0r x_o0_1 k_o0r90_5 h_x_tl_3 (rg_of (show 0 ≤ y_tl_490_4.toInt ∧ y_tl_490_4.toInt ≤ 999990 by have q0 := h_x_tl_4.1; have q1 := h_x_tl_4.2; have q2 := hp75_8; have q3 := hp90_7; omega)) h_x_o0_1 _) (cb_of (n := 5) hn mw_1341 mw_10 mw_1338 mhX10_putImm ⟨(Nat.le_of_ble_eq_true rfl), (Nat.le_of_ble_eq_true rfl)⟩) hx hb hml hown hn hK hSK hZ hS mw_1340 mw_s154 (ci := 10) (q0 := 0) rfl rfl rfl rfl hl.1 (Nat.le_of_ble_eq_true rfl) dX10_turnMemory_124 ⟨(Nat.le_of_ble_eq_true rfl), (Nat.le_of_ble_eq_true rfl)⟩) hP hD hS hA rfl rfl (by decide) (by decide) (by decide) (Nat.le_of_ble_eq_true rfl) (Nat.le_of_ble_eq_true rfl) (fun u124_2 H locs hp124_3 hP hD hS => ?_)
              obtain ⟨y_tl_4124_4, k_o0r124_5⟩ := u124_2
              obtain ⟨hp124_6, hp124_7⟩ := hp124_3
              have hp124_6 : rg y_tl_4124_4 1 1000001 := hp124_6
              have hp124_7 : y_tl_4124_4.toInt = y_tl_490_4.toInt + 1 := hp124_7
              have hP : va_P D vwCl [(tl, .inr (10, [.ref tls, .ref o0, .ref p0, .int x_tl_3, .int y_tl_4124_4])), (o0, .inr (5, [.ref o0r, .int x_o0_1])), (o0r, .inl (ct 1, 60000, .inl k_o0r124_5))] _ := hP
              have hD : va_D A [(tl, .inr (10, [.ref tls, .ref o0, .ref p0, .int x_tl_3, .int y_tl_4124_4])), (o0, .inr (5, [.ref o0r, .int x_o0_1])), (o0r, .inl (ct 1, 60000, .inl k_o0r124_5))] := hD
              refine lv_goto (tgt := 172) hx hb dX10_turnMemory_127 (by decide) ?_
              exact endq_v hQ hx hb hr hlocks dX10_turnMemory_172 (y_tl_4124_4, k_o0r124_5) ⟨hp124_6, (show x_tl_4.toInt + 3 ≤ y_tl_4124_4.toInt ∧ y_tl_4124_4.toInt ≤ x_tl_4.toInt + 6 by have q0 := hp75_8; have q1 := hp90_7; have q2 := hp124_7; omega), (show y_tl_4124_4.toInt = x_tl_4.toInt + ((d : Nat) : Int) by have q0 := r19_3.1; have q1 := r19_3.2; have q2 := hk0_4; have q3 := hk0_7; have q4 := hk4_1; have q5 := hp6_5; have q6 := hk75_1; have q7 := hp75_8; have q8 := hp75_9; have q9 := hp75_10; have q10 := hp90_7; have q11 := hp124_7; omega)⟩ hP hD hS [0, 1, 2] rfl (by decide) rfl (Nat.le_of_ble_eq_true rfl) (Nat.le_of_ble_eq_true rfl)
            · exact absurd (i_eq c104_1) (rg_eqX r59_3 (show rg (8 : Int32) 8 8 from rg_l (by decide)) (by decide))
      · have t49_2 := (i_eq c49_1)
        have r49_3 : rg r12_1 4 4 := rg_eqA t49_2 r39_3 (show rg (4 : Int32) 4 4 from rg_l (by decide)) (by decide)
        refine lv_iconst (v := 2) hx hb dX10_turnMemory_52 (by decide) ?_
        refine lv_goto (tgt := 67) hx hb dX10_turnMemory_53 (by decide) ?_
        refine lv_istore (lv' := [(7, .int 2), (6, .int r23_1), (5, .int r12_1), (4, .int r6_1), (3, .int r1_1), (0, .ref tl), (1, .long v0)]) hx hb dX10_turnMemory_67 hl (by decide) rfl (fun ls hl => ?_)
        refine lv_aload_n hx hb dX10_turnMemory_69 rfl (lv_at hl 5 rfl) ?_
        refine lv_iconst (v := 5) hx hb dX10_turnMemory_70 (by decide) ?_
        refine lv_lload_n hx hb dX10_turnMemory_71 rfl (lv_at hl 6 rfl) ?_
        refine go_i (k1 := 0) (n1 := 0) (wr := [(tl, .inr (10, [.ref tls, .ref o0, .ref p0, .int x_tl_3, .int x_tl_4])), (o0, .inr (5, [.ref o0r, .int x_o0_1])), (o0r, .inl (ct 1, 60000, .inl g_o0r))]) [] [0, 1, 2] (rn_SN (As := [.long v0]) (rest := [.int 5, .ref tl]) (c_X7_offOf_w l D ct v0  _) (cn_of (n := 1) hn mw_992 mw_7 mw_1368 mhX7_offOf ⟨(Nat.le_of_ble_eq_true rfl), (Nat.le_of_ble_eq_true rfl)⟩) hx hb hml hown hn hK hSK hZ hS mw_991 rfl hl.1 (Nat.le_of_ble_eq_true rfl) dX10_turnMemory_72 ⟨(Nat.le_of_ble_eq_true rfl), (Nat.le_of_ble_eq_true rfl)⟩) hP hD hS hA rfl rfl (by decide) (by decide) (by decide) (Nat.le_of_ble_eq_true rfl) (Nat.le_of_ble_eq_true rfl) (fun r72_1 u72_2 H locs hp72_3 hP hD hS => ?_)
        obtain ⟨hp72_4, hp72_5⟩ := hp72_3
        have hp72_4 : rg r72_1 (-32768) 32767 := hp72_4
        have hp72_5 : r72_1.toInt = (v0.toInt / 65536 + 32768) % 65536 - 32768 := hp72_5
        have hP : va_P D vwCl [(tl, .inr (10, [.ref tls, .ref o0, .ref p0, .int x_tl_3, .int x_tl_4])), (o0, .inr (5, [.ref o0r, .int x_o0_1])), (o0r, .inl (ct 1, 60000, .inl g_o0r))] _ := hP
        have hD : va_D A [(tl, .inr (10, [.ref tls, .ref o0, .ref p0, .int x_tl_3, .int x_tl_4])), (o0, .inr (5, [.ref o0r, .int x_o0_1])), (o0r, .inl (ct 1, 60000, .inl g_o0r))] := hD
        have hk75_1 : r72_1.toInt = oo.toInt := FF.mk (by have h1 := FF.out hq2; have h2 := FF.out hp72_5; omega)
        refine go_v (k1 := 0) (n1 := 0) (wr := []) [0, 1, 2] [] (rn_V (As := [.int 5, .int r72_1]) (rest := []) (c_X10_putNumber_w l D ct tl (5 : Int32) r72_1 tls o0 p0 x_tl_3 x_tl_4 o0r x_o0_1 g_o0r h_x_tl_3 (rg_w h_x_tl_4 (by decide)) h_x_o0_1 _) (cb_of (n := 2) hn mw_1315 mw_10 mw_1312 mhX10_putNumber ⟨(Nat.le_of_ble_eq_true rfl), (Nat.le_of_ble_eq_true rfl)⟩) hx hb hml hown hn hK hSK hZ hS mw_1314 mw_s148 (ci := 10) (q0 := 0) rfl rfl rfl rfl hl.1 (Nat.le_of_ble_eq_true rfl) dX10_turnMemory_75 ⟨(Nat.le_of_ble_eq_true rfl), (Nat.le_of_ble_eq_true rfl)⟩) hP hD hS hA rfl rfl (by decide) (by decide) (by decide) (Nat.le_of_ble_eq_true rfl) (Nat.le_of_ble_eq_true rfl) (fun u75_3 H locs hp75_4 hP hD hS => ?_)
        obtain ⟨y_tl_475_5, k_o0r75_6⟩ := u75_3
        obtain ⟨hp75_7, hp75_8, hp75_9, hp75_10⟩ := hp75_4
        have hp75_7 : rg y_tl_475_5 1 1000001 := hp75_7
        have hp75_8 : x_tl_4.toInt + 1 ≤ y_tl_475_5.toInt ∧ y_tl_475_5.toInt ≤ x_tl_4.toInt + 2 := hp75_8
        have hp75_9 : -2048 ≤ r72_1.toInt ∧ r72_1.toInt ≤ 2047 → y_tl_475_5.toInt = x_tl_4.toInt + 1 := hp75_9
        have hp75_10 : r72_1.toInt < -2048 ∨ 2047 < r72_1.toInt → y_tl_475_5.toInt = x_tl_4.toInt + 2 := hp75_10
        have hP : va_P D vwCl [(tl, .inr (10, [.ref tls, .ref o0, .ref p0, .int x_tl_3, .int y_tl_475_5])), (o0, .inr (5, [.ref o0r, .int x_o0_1])), (o0r, .inl (ct 1, 60000, .inl k_o0r75_6))] _ := hP
        have hD : va_D A [(tl, .inr (10, [.ref tls, .ref o0, .ref p0, .int x_tl_3, .int y_tl_475_5])), (o0, .inr (5, [.ref o0r, .int x_o0_1])), (o0r, .inl (ct 1, 60000, .inl k_o0r75_6))] := hD
        refine lv_aload_n hx hb dX10_turnMemory_78 rfl (lv_at hl 5 rfl) ?_
        refine lv_bipush (v := 51) hx hb dX10_turnMemory_79 (by decide) ?_
        refine lv_iconst (v := 0) hx hb dX10_turnMemory_81 (by decide) ?_
        refine lv_iconst (v := 0) hx hb dX10_turnMemory_82 (by decide) ?_
        refine lv_iconst (v := 5) hx hb dX10_turnMemory_83 (by decide) ?_
        refine lv_iconst (v := 5) hx hb dX10_turnMemory_84 (by decide) ?_
        refine lv_iload hx hb dX10_turnMemory_85 (lv_at hl 1 rfl) ?_
        refine go_i (k1 := 0) (n1 := 0) (wr := [(tl, .inr (10, [.ref tls, .ref o0, .ref p0, .int x_tl_3, .int y_tl_475_5])), (o0, .inr (5, [.ref o0r, .int x_o0_1])), (o0r, .inl (ct 1, 60000, .inl k_o0r75_6))]) [] [0, 1, 2] (rn_S (As := [.int r23_1]) (rest := [.int 5, .int 5, .int 0, .int 0, .int 51, .ref tl]) (c_X10_placeOf l D ct r23_1  _) (cb_of (n := 1) hn mw_1308 mw_10 mw_1306 mhX10_placeOf ⟨(Nat.le_of_ble_eq_true rfl), (Nat.le_of_ble_eq_true rfl)⟩) hx hb hml hown hn hK hSK hZ hS mw_1307 rfl hl.1 (Nat.le_of_ble_eq_true rfl) dX10_turnMemory_87 ⟨(Nat.le_of_ble_eq_true rfl), (Nat.le_of_ble_eq_true rfl)⟩) hP hD hS hA rfl rfl (by decide) (by decide) (by decide) (Nat.le_of_ble_eq_true rfl) (Nat.le_of_ble_eq_true rfl) (fun r87_1 u87_2 H locs hp87_3 hP hD hS => ?_)
        have hP : va_P D vwCl [(tl, .inr (10, [.ref tls, .ref o0, .ref p0, .int x_tl_3, .int y_tl_475_5])), (o0, .inr (5, [.ref o0r, .int x_o0_1])), (o0r, .inl (ct 1, 60000, .inl k_o0r75_6))] _ := hP
        have hD : va_D A [(tl, .inr (10, [.ref tls, .ref o0, .ref p0, .int x_tl_3, .int y_tl_475_5])), (o0, .inr (5, [.ref o0r, .int x_o0_1])), (o0r, .inl (ct 1, 60000, .inl k_o0r75_6))] := hD
        refine go_v (k1 := 0) (n1 := 0) (wr := []) [0, 1, 2] [] (rn_V (As := [.int 51, .int 0, .int 0, .int 5, .int 5, .int r87_1]) (rest := []) (c_X10_putOp l D ct tl (51 : Int32) (0 : Int32) (0 : Int32) (5 : Int32) (5 : Int32) r87_1 tls o0 p0 x_tl_3 y_tl_475_5 o0r x_o0_1 k_o0r75_6 h_x_tl_3 (rg_of (show 0 ≤ y_tl_475_5.toInt ∧ y_tl_475_5.toInt ≤ 999990 by have q0 := h_x_tl_4.1; have q1 := h_x_tl_4.2; have q2 := hp75_8; omega)) h_x_o0_1 _) (cb_of (n := 6) hn mw_1329 mw_10 mw_1326 mhX10_putOp ⟨(Nat.le_of_ble_eq_true rfl), (Nat.le_of_ble_eq_true rfl)⟩) hx hb hml hown hn hK hSK hZ hS mw_1328 mw_s151 (ci := 10) (q0 := 0) rfl rfl rfl rfl hl.1 (Nat.le_of_ble_eq_true rfl) dX10_turnMemory_90 ⟨(Nat.le_of_ble_eq_true rfl), (Nat.le_of_ble_eq_true rfl)⟩) hP hD hS hA rfl rfl (by decide) (by decide) (by decide) (Nat.le_of_ble_eq_true rfl) (Nat.le_of_ble_eq_true rfl) (fun u90_2 H locs hp90_3 hP hD hS => ?_)
        obtain ⟨y_tl_490_4, k_o0r90_5⟩ := u90_2
        obtain ⟨hp90_6, hp90_7⟩ := hp90_3
        have hp90_6 : rg y_tl_490_4 1 1000001 := hp90_6
        have hp90_7 : y_tl_490_4.toInt = y_tl_475_5.toInt + 1 := hp90_7
        have hP : va_P D vwCl [(tl, .inr (10, [.ref tls, .ref o0, .ref p0, .int x_tl_3, .int y_tl_490_4])), (o0, .inr (5, [.ref o0r, .int x_o0_1])), (o0r, .inl (ct 1, 60000, .inl k_o0r90_5))] _ := hP
        have hD : va_D A [(tl, .inr (10, [.ref tls, .ref o0, .ref p0, .int x_tl_3, .int y_tl_490_4])), (o0, .inr (5, [.ref o0r, .int x_o0_1])), (o0r, .inl (ct 1, 60000, .inl k_o0r90_5))] := hD
        refine lv_iload hx hb dX10_turnMemory_93 (lv_at hl 3 rfl) ?_
        refine lv_if_eq (tgt := 130) hx hb dX10_turnMemory_95 (by decide) (fun c95_1 => ?_) (fun c95_1 => ?_)
        · exact absurd (i_eq c95_1) (rg_eqX r19_3 (show rg (0 : Int32) 0 0 from rg_l (by decide)) (by decide))
        · have t95_2 := (i_ne c95_1)
          refine lv_aload_n hx hb dX10_turnMemory_98 rfl (lv_at hl 5 rfl) ?_
          refine lv_iconst (v := 3) hx hb dX10_turnMemory_99 (by decide) ?_
          refine lv_iload hx hb dX10_turnMemory_100 (lv_at hl 2 rfl) ?_
          refine lv_bipush (v := 8) hx hb dX10_turnMemory_102 (by decide) ?_
          refine lv_icmp_ne (tgt := 111) hx hb dX10_turnMemory_104 (by decide) (fun c104_1 => ?_) (fun c104_1 => ?_)
          · have t104_2 := (i_ne c104_1)
            refine lv_iload hx hb dX10_turnMemory_111 (lv_at hl 0 rfl) ?_
            refine lv_iconst (v := 4) hx hb dX10_turnMemory_113 (by decide) ?_
            refine lv_iadd hx hb dX10_turnMemory_114 ?_
            refine top_c (v := 6) (by decide) ?_
            refine lv_lload_n hx hb dX10_turnMemory_115 rfl (lv_at hl 6 rfl) ?_
            refine go_i (k1 := 0) (n1 := 0) (wr := [(tl, .inr (10, [.ref tls, .ref o0, .ref p0, .int x_tl_3, .int y_tl_490_4])), (o0, .inr (5, [.ref o0r, .int x_o0_1])), (o0r, .inl (ct 1, 60000, .inl k_o0r90_5))]) [] [0, 1, 2] (rn_SN (As := [.long v0]) (rest := [.int 6, .int 3, .ref tl]) (c_X7_dOf l D ct v0  _) (cn_of (n := 1) hn mw_986 mw_7 mw_1305 mhX7_dOf ⟨(Nat.le_of_ble_eq_true rfl), (Nat.le_of_ble_eq_true rfl)⟩) hx hb hml hown hn hK hSK hZ hS mw_985 rfl hl.1 (Nat.le_of_ble_eq_true rfl) dX10_turnMemory_116 ⟨(Nat.le_of_ble_eq_true rfl), (Nat.le_of_ble_eq_true rfl)⟩) hP hD hS hA rfl rfl (by decide) (by decide) (by decide) (Nat.le_of_ble_eq_true rfl) (Nat.le_of_ble_eq_true rfl) (fun r116_1 u116_2 H locs hp116_3 hP hD hS => ?_)
            obtain ⟨hp116_4, hp116_5⟩ := hp116_3
            have hp116_4 : rg r116_1 0 15 := hp116_4
            have hp116_5 : r116_1.toInt = (v0.toInt / 256) % 16 := hp116_5
            have hP : va_P D vwCl [(tl, .inr (10, [.ref tls, .ref o0, .ref p0, .int x_tl_3, .int y_tl_490_4])), (o0, .inr (5, [.ref o0r, .int x_o0_1])), (o0r, .inl (ct 1, 60000, .inl k_o0r90_5))] _ := hP
            have hD : va_D A [(tl, .inr (10, [.ref tls, .ref o0, .ref p0, .int x_tl_3, .int y_tl_490_4])), (o0, .inr (5, [.ref o0r, .int x_o0_1])), (o0r, .inl (ct 1, 60000, .inl k_o0r90_5))] := hD
            refine go_i (k1 := 0) (n1 := 0) (wr := [(tl, .inr (10, [.ref tls, .ref o0, .ref p0, .int x_tl_3, .int y_tl_490_4])), (o0, .inr (5, [.ref o0r, .int x_o0_1])), (o0r, .inl (ct 1, 60000, .inl k_o0r90_5))]) [] [0, 1, 2] (rn_S (As := [.int r116_1]) (rest := [.int 6, .int 3, .ref tl]) (c_X10_placeOf l D ct r116_1  _) (cb_of (n := 1) hn mw_1308 mw_10 mw_1306 mhX10_placeOf ⟨(Nat.le_of_ble_eq_true rfl), (Nat.le_of_ble_eq_true rfl)⟩) hx hb hml hown hn hK hSK hZ hS mw_1307 rfl hl.1 (Nat.le_of_ble_eq_true rfl) dX10_turnMemory_119 ⟨(Nat.le_of_ble_eq_true rfl), (Nat.le_of_ble_eq_true rfl)⟩) hP hD hS hA rfl rfl (by decide) (by decide) (by decide) (Nat.le_of_ble_eq_true rfl) (Nat.le_of_ble_eq_true rfl) (fun r119_1 u119_2 H locs hp119_3 hP hD hS => ?_)
            have hP : va_P D vwCl [(tl, .inr (10, [.ref tls, .ref o0, .ref p0, .int x_tl_3, .int y_tl_490_4])), (o0, .inr (5, [.ref o0r, .int x_o0_1])), (o0r, .inl (ct 1, 60000, .inl k_o0r90_5))] _ := hP
            have hD : va_D A [(tl, .inr (10, [.ref tls, .ref o0, .ref p0, .int x_tl_3, .int y_tl_490_4])), (o0, .inr (5, [.ref o0r, .int x_o0_1])), (o0r, .inl (ct 1, 60000, .inl k_o0r90_5))] := hD
            refine lv_iconst (v := 5) hx hb dX10_turnMemory_122 (by decide) ?_
            refine lv_iconst (v := 0) hx hb dX10_turnMemory_123 (by decide) ?_
            refine go_v (k1 := 0) (n1 := 0) (wr := []) [0, 1, 2] [] (rn_V (As := [.int 3, .int 6, .int r119_1, .int 5, .int 0]) (rest := []) (c_X10_putImm l D ct tl (3 : Int32) (6 : Int32) r119_1 (5 : Int32) (0 : Int32) tls o0 p0 x_tl_3 y_tl_490_4 o0r x_o0_1 k_o0r90_5 h_x_tl_3 (rg_of (show 0 ≤ y_tl_490_4.toInt ∧ y_tl_490_4.toInt ≤ 999990 by have q0 := h_x_tl_4.1; have q1 := h_x_tl_4.2; have q2 := hp75_8; have q3 := hp90_7; omega)) h_x_o0_1 _) (cb_of (n := 5) hn mw_1341 mw_10 mw_1338 mhX10_putImm ⟨(Nat.le_of_ble_eq_true rfl), (Nat.le_of_ble_eq_true rfl)⟩) hx hb hml hown hn hK hSK hZ hS mw_1340 mw_s154 (ci := 10) (q0 := 0) rfl rfl rfl rfl hl.1 (Nat.le_of_ble_eq_true rfl) dX10_turnMemory_124 ⟨(Nat.le_of_ble_eq_true rfl), (Nat.le_of_ble_eq_true rfl)⟩) hP hD hS hA rfl rfl (by decide) (by decide) (by decide) (Nat.le_of_ble_eq_true rfl) (Nat.le_of_ble_eq_true rfl) (fun u124_2 H locs hp124_3 hP hD hS => ?_)
            obtain ⟨y_tl_4124_4, k_o0r124_5⟩ := u124_2
            obtain ⟨hp124_6, hp124_7⟩ := hp124_3
            have hp124_6 : rg y_tl_4124_4 1 1000001 := hp124_6
            have hp124_7 : y_tl_4124_4.toInt = y_tl_490_4.toInt + 1 := hp124_7
            have hP : va_P D vwCl [(tl, .inr (10, [.ref tls, .ref o0, .ref p0, .int x_tl_3, .int y_tl_4124_4])), (o0, .inr (5, [.ref o0r, .int x_o0_1])), (o0r, .inl (ct 1, 60000, .inl k_o0r124_5))] _ := hP
            have hD : va_D A [(tl, .inr (10, [.ref tls, .ref o0, .ref p0, .int x_tl_3, .int y_tl_4124_4])), (o0, .inr (5, [.ref o0r, .int x_o0_1])), (o0r, .inl (ct 1, 60000, .inl k_o0r124_5))] := hD
            refine lv_goto (tgt := 172) hx hb dX10_turnMemory_127 (by decide) ?_
            exact endq_v hQ hx hb hr hlocks dX10_turnMemory_172 (y_tl_4124_4, k_o0r124_5) ⟨hp124_6, (show x_tl_4.toInt + 3 ≤ y_tl_4124_4.toInt ∧ y_tl_4124_4.toInt ≤ x_tl_4.toInt + 6 by have q0 := hp75_8; have q1 := hp90_7; have q2 := hp124_7; omega), (show y_tl_4124_4.toInt = x_tl_4.toInt + ((d : Nat) : Int) by have q0 := r19_3.1; have q1 := r19_3.2; have q2 := hk0_4; have q3 := hk0_7; have q4 := hk4_1; have q5 := hp6_5; have q6 := hk75_1; have q7 := hp75_8; have q8 := hp75_9; have q9 := hp75_10; have q10 := hp90_7; have q11 := hp124_7; omega)⟩ hP hD hS [0, 1, 2] rfl (by decide) rfl (Nat.le_of_ble_eq_true rfl) (Nat.le_of_ble_eq_true rfl)
          · exact absurd (i_eq c104_1) (rg_eqX r49_3 (show rg (8 : Int32) 8 8 from rg_l (by decide)) (by decide))
    · have t39_2 := (i_eq c39_1)
      have r39_3 : rg r12_1 8 8 := rg_eqA t39_2 hp12_4 (show rg (8 : Int32) 8 8 from rg_l (by decide)) (by decide)
      refine lv_iconst (v := 3) hx hb dX10_turnMemory_42 (by decide) ?_
      refine lv_goto (tgt := 67) hx hb dX10_turnMemory_43 (by decide) ?_
      refine lv_istore (lv' := [(7, .int 3), (6, .int r23_1), (5, .int r12_1), (4, .int r6_1), (3, .int r1_1), (0, .ref tl), (1, .long v0)]) hx hb dX10_turnMemory_67 hl (by decide) rfl (fun ls hl => ?_)
      refine lv_aload_n hx hb dX10_turnMemory_69 rfl (lv_at hl 5 rfl) ?_
      refine lv_iconst (v := 5) hx hb dX10_turnMemory_70 (by decide) ?_
      refine lv_lload_n hx hb dX10_turnMemory_71 rfl (lv_at hl 6 rfl) ?_
      refine go_i (k1 := 0) (n1 := 0) (wr := [(tl, .inr (10, [.ref tls, .ref o0, .ref p0, .int x_tl_3, .int x_tl_4])), (o0, .inr (5, [.ref o0r, .int x_o0_1])), (o0r, .inl (ct 1, 60000, .inl g_o0r))]) [] [0, 1, 2] (rn_SN (As := [.long v0]) (rest := [.int 5, .ref tl]) (c_X7_offOf_w l D ct v0  _) (cn_of (n := 1) hn mw_992 mw_7 mw_1368 mhX7_offOf ⟨(Nat.le_of_ble_eq_true rfl), (Nat.le_of_ble_eq_true rfl)⟩) hx hb hml hown hn hK hSK hZ hS mw_991 rfl hl.1 (Nat.le_of_ble_eq_true rfl) dX10_turnMemory_72 ⟨(Nat.le_of_ble_eq_true rfl), (Nat.le_of_ble_eq_true rfl)⟩) hP hD hS hA rfl rfl (by decide) (by decide) (by decide) (Nat.le_of_ble_eq_true rfl) (Nat.le_of_ble_eq_true rfl) (fun r72_1 u72_2 H locs hp72_3 hP hD hS => ?_)
      obtain ⟨hp72_4, hp72_5⟩ := hp72_3
      have hp72_4 : rg r72_1 (-32768) 32767 := hp72_4
      have hp72_5 : r72_1.toInt = (v0.toInt / 65536 + 32768) % 65536 - 32768 := hp72_5
      have hP : va_P D vwCl [(tl, .inr (10, [.ref tls, .ref o0, .ref p0, .int x_tl_3, .int x_tl_4])), (o0, .inr (5, [.ref o0r, .int x_o0_1])), (o0r, .inl (ct 1, 60000, .inl g_o0r))] _ := hP
      have hD : va_D A [(tl, .inr (10, [.ref tls, .ref o0, .ref p0, .int x_tl_3, .int x_tl_4])), (o0, .inr (5, [.ref o0r, .int x_o0_1])), (o0r, .inl (ct 1, 60000, .inl g_o0r))] := hD
      have hk75_1 : r72_1.toInt = oo.toInt := FF.mk (by have h1 := FF.out hq2; have h2 := FF.out hp72_5; omega)
      refine go_v (k1 := 0) (n1 := 0) (wr := []) [0, 1, 2] [] (rn_V (As := [.int 5, .int r72_1]) (rest := []) (c_X10_putNumber_w l D ct tl (5 : Int32) r72_1 tls o0 p0 x_tl_3 x_tl_4 o0r x_o0_1 g_o0r h_x_tl_3 (rg_w h_x_tl_4 (by decide)) h_x_o0_1 _) (cb_of (n := 2) hn mw_1315 mw_10 mw_1312 mhX10_putNumber ⟨(Nat.le_of_ble_eq_true rfl), (Nat.le_of_ble_eq_true rfl)⟩) hx hb hml hown hn hK hSK hZ hS mw_1314 mw_s148 (ci := 10) (q0 := 0) rfl rfl rfl rfl hl.1 (Nat.le_of_ble_eq_true rfl) dX10_turnMemory_75 ⟨(Nat.le_of_ble_eq_true rfl), (Nat.le_of_ble_eq_true rfl)⟩) hP hD hS hA rfl rfl (by decide) (by decide) (by decide) (Nat.le_of_ble_eq_true rfl) (Nat.le_of_ble_eq_true rfl) (fun u75_3 H locs hp75_4 hP hD hS => ?_)
      obtain ⟨y_tl_475_5, k_o0r75_6⟩ := u75_3
      obtain ⟨hp75_7, hp75_8, hp75_9, hp75_10⟩ := hp75_4
      have hp75_7 : rg y_tl_475_5 1 1000001 := hp75_7
      have hp75_8 : x_tl_4.toInt + 1 ≤ y_tl_475_5.toInt ∧ y_tl_475_5.toInt ≤ x_tl_4.toInt + 2 := hp75_8
      have hp75_9 : -2048 ≤ r72_1.toInt ∧ r72_1.toInt ≤ 2047 → y_tl_475_5.toInt = x_tl_4.toInt + 1 := hp75_9
      have hp75_10 : r72_1.toInt < -2048 ∨ 2047 < r72_1.toInt → y_tl_475_5.toInt = x_tl_4.toInt + 2 := hp75_10
      have hP : va_P D vwCl [(tl, .inr (10, [.ref tls, .ref o0, .ref p0, .int x_tl_3, .int y_tl_475_5])), (o0, .inr (5, [.ref o0r, .int x_o0_1])), (o0r, .inl (ct 1, 60000, .inl k_o0r75_6))] _ := hP
      have hD : va_D A [(tl, .inr (10, [.ref tls, .ref o0, .ref p0, .int x_tl_3, .int y_tl_475_5])), (o0, .inr (5, [.ref o0r, .int x_o0_1])), (o0r, .inl (ct 1, 60000, .inl k_o0r75_6))] := hD
      refine lv_aload_n hx hb dX10_turnMemory_78 rfl (lv_at hl 5 rfl) ?_
      refine lv_bipush (v := 51) hx hb dX10_turnMemory_79 (by decide) ?_
      refine lv_iconst (v := 0) hx hb dX10_turnMemory_81 (by decide) ?_
      refine lv_iconst (v := 0) hx hb dX10_turnMemory_82 (by decide) ?_
      refine lv_iconst (v := 5) hx hb dX10_turnMemory_83 (by decide) ?_
      refine lv_iconst (v := 5) hx hb dX10_turnMemory_84 (by decide) ?_
      refine lv_iload hx hb dX10_turnMemory_85 (lv_at hl 1 rfl) ?_
      refine go_i (k1 := 0) (n1 := 0) (wr := [(tl, .inr (10, [.ref tls, .ref o0, .ref p0, .int x_tl_3, .int y_tl_475_5])), (o0, .inr (5, [.ref o0r, .int x_o0_1])), (o0r, .inl (ct 1, 60000, .inl k_o0r75_6))]) [] [0, 1, 2] (rn_S (As := [.int r23_1]) (rest := [.int 5, .int 5, .int 0, .int 0, .int 51, .ref tl]) (c_X10_placeOf l D ct r23_1  _) (cb_of (n := 1) hn mw_1308 mw_10 mw_1306 mhX10_placeOf ⟨(Nat.le_of_ble_eq_true rfl), (Nat.le_of_ble_eq_true rfl)⟩) hx hb hml hown hn hK hSK hZ hS mw_1307 rfl hl.1 (Nat.le_of_ble_eq_true rfl) dX10_turnMemory_87 ⟨(Nat.le_of_ble_eq_true rfl), (Nat.le_of_ble_eq_true rfl)⟩) hP hD hS hA rfl rfl (by decide) (by decide) (by decide) (Nat.le_of_ble_eq_true rfl) (Nat.le_of_ble_eq_true rfl) (fun r87_1 u87_2 H locs hp87_3 hP hD hS => ?_)
      have hP : va_P D vwCl [(tl, .inr (10, [.ref tls, .ref o0, .ref p0, .int x_tl_3, .int y_tl_475_5])), (o0, .inr (5, [.ref o0r, .int x_o0_1])), (o0r, .inl (ct 1, 60000, .inl k_o0r75_6))] _ := hP
      have hD : va_D A [(tl, .inr (10, [.ref tls, .ref o0, .ref p0, .int x_tl_3, .int y_tl_475_5])), (o0, .inr (5, [.ref o0r, .int x_o0_1])), (o0r, .inl (ct 1, 60000, .inl k_o0r75_6))] := hD
      refine go_v (k1 := 0) (n1 := 0) (wr := []) [0, 1, 2] [] (rn_V (As := [.int 51, .int 0, .int 0, .int 5, .int 5, .int r87_1]) (rest := []) (c_X10_putOp l D ct tl (51 : Int32) (0 : Int32) (0 : Int32) (5 : Int32) (5 : Int32) r87_1 tls o0 p0 x_tl_3 y_tl_475_5 o0r x_o0_1 k_o0r75_6 h_x_tl_3 (rg_of (show 0 ≤ y_tl_475_5.toInt ∧ y_tl_475_5.toInt ≤ 999990 by have q0 := h_x_tl_4.1; have q1 := h_x_tl_4.2; have q2 := hp75_8; omega)) h_x_o0_1 _) (cb_of (n := 6) hn mw_1329 mw_10 mw_1326 mhX10_putOp ⟨(Nat.le_of_ble_eq_true rfl), (Nat.le_of_ble_eq_true rfl)⟩) hx hb hml hown hn hK hSK hZ hS mw_1328 mw_s151 (ci := 10) (q0 := 0) rfl rfl rfl rfl hl.1 (Nat.le_of_ble_eq_true rfl) dX10_turnMemory_90 ⟨(Nat.le_of_ble_eq_true rfl), (Nat.le_of_ble_eq_true rfl)⟩) hP hD hS hA rfl rfl (by decide) (by decide) (by decide) (Nat.le_of_ble_eq_true rfl) (Nat.le_of_ble_eq_true rfl) (fun u90_2 H locs hp90_3 hP hD hS => ?_)
      obtain ⟨y_tl_490_4, k_o0r90_5⟩ := u90_2
      obtain ⟨hp90_6, hp90_7⟩ := hp90_3
      have hp90_6 : rg y_tl_490_4 1 1000001 := hp90_6
      have hp90_7 : y_tl_490_4.toInt = y_tl_475_5.toInt + 1 := hp90_7
      have hP : va_P D vwCl [(tl, .inr (10, [.ref tls, .ref o0, .ref p0, .int x_tl_3, .int y_tl_490_4])), (o0, .inr (5, [.ref o0r, .int x_o0_1])), (o0r, .inl (ct 1, 60000, .inl k_o0r90_5))] _ := hP
      have hD : va_D A [(tl, .inr (10, [.ref tls, .ref o0, .ref p0, .int x_tl_3, .int y_tl_490_4])), (o0, .inr (5, [.ref o0r, .int x_o0_1])), (o0r, .inl (ct 1, 60000, .inl k_o0r90_5))] := hD
      refine lv_iload hx hb dX10_turnMemory_93 (lv_at hl 3 rfl) ?_
      refine lv_if_eq (tgt := 130) hx hb dX10_turnMemory_95 (by decide) (fun c95_1 => ?_) (fun c95_1 => ?_)
      · exact absurd (i_eq c95_1) (rg_eqX r19_3 (show rg (0 : Int32) 0 0 from rg_l (by decide)) (by decide))
      · have t95_2 := (i_ne c95_1)
        refine lv_aload_n hx hb dX10_turnMemory_98 rfl (lv_at hl 5 rfl) ?_
        refine lv_iconst (v := 3) hx hb dX10_turnMemory_99 (by decide) ?_
        refine lv_iload hx hb dX10_turnMemory_100 (lv_at hl 2 rfl) ?_
        refine lv_bipush (v := 8) hx hb dX10_turnMemory_102 (by decide) ?_
        refine lv_icmp_ne (tgt := 111) hx hb dX10_turnMemory_104 (by decide) (fun c104_1 => ?_) (fun c104_1 => ?_)
        · exact absurd (i_ne c104_1) (rg_neX r39_3 (show rg (8 : Int32) 8 8 from rg_l (by decide)) (by decide))
        · have t104_2 := (i_eq c104_1)
          refine lv_iconst (v := 3) hx hb dX10_turnMemory_107 (by decide) ?_
          refine lv_goto (tgt := 115) hx hb dX10_turnMemory_108 (by decide) ?_
          refine lv_lload_n hx hb dX10_turnMemory_115 rfl (lv_at hl 6 rfl) ?_
          refine go_i (k1 := 0) (n1 := 0) (wr := [(tl, .inr (10, [.ref tls, .ref o0, .ref p0, .int x_tl_3, .int y_tl_490_4])), (o0, .inr (5, [.ref o0r, .int x_o0_1])), (o0r, .inl (ct 1, 60000, .inl k_o0r90_5))]) [] [0, 1, 2] (rn_SN (As := [.long v0]) (rest := [.int 3, .int 3, .ref tl]) (c_X7_dOf l D ct v0  _) (cn_of (n := 1) hn mw_986 mw_7 mw_1305 mhX7_dOf ⟨(Nat.le_of_ble_eq_true rfl), (Nat.le_of_ble_eq_true rfl)⟩) hx hb hml hown hn hK hSK hZ hS mw_985 rfl hl.1 (Nat.le_of_ble_eq_true rfl) dX10_turnMemory_116 ⟨(Nat.le_of_ble_eq_true rfl), (Nat.le_of_ble_eq_true rfl)⟩) hP hD hS hA rfl rfl (by decide) (by decide) (by decide) (Nat.le_of_ble_eq_true rfl) (Nat.le_of_ble_eq_true rfl) (fun r116_1 u116_2 H locs hp116_3 hP hD hS => ?_)
          obtain ⟨hp116_4, hp116_5⟩ := hp116_3
          have hp116_4 : rg r116_1 0 15 := hp116_4
          have hp116_5 : r116_1.toInt = (v0.toInt / 256) % 16 := hp116_5
          have hP : va_P D vwCl [(tl, .inr (10, [.ref tls, .ref o0, .ref p0, .int x_tl_3, .int y_tl_490_4])), (o0, .inr (5, [.ref o0r, .int x_o0_1])), (o0r, .inl (ct 1, 60000, .inl k_o0r90_5))] _ := hP
          have hD : va_D A [(tl, .inr (10, [.ref tls, .ref o0, .ref p0, .int x_tl_3, .int y_tl_490_4])), (o0, .inr (5, [.ref o0r, .int x_o0_1])), (o0r, .inl (ct 1, 60000, .inl k_o0r90_5))] := hD
          refine go_i (k1 := 0) (n1 := 0) (wr := [(tl, .inr (10, [.ref tls, .ref o0, .ref p0, .int x_tl_3, .int y_tl_490_4])), (o0, .inr (5, [.ref o0r, .int x_o0_1])), (o0r, .inl (ct 1, 60000, .inl k_o0r90_5))]) [] [0, 1, 2] (rn_S (As := [.int r116_1]) (rest := [.int 3, .int 3, .ref tl]) (c_X10_placeOf l D ct r116_1  _) (cb_of (n := 1) hn mw_1308 mw_10 mw_1306 mhX10_placeOf ⟨(Nat.le_of_ble_eq_true rfl), (Nat.le_of_ble_eq_true rfl)⟩) hx hb hml hown hn hK hSK hZ hS mw_1307 rfl hl.1 (Nat.le_of_ble_eq_true rfl) dX10_turnMemory_119 ⟨(Nat.le_of_ble_eq_true rfl), (Nat.le_of_ble_eq_true rfl)⟩) hP hD hS hA rfl rfl (by decide) (by decide) (by decide) (Nat.le_of_ble_eq_true rfl) (Nat.le_of_ble_eq_true rfl) (fun r119_1 u119_2 H locs hp119_3 hP hD hS => ?_)
          have hP : va_P D vwCl [(tl, .inr (10, [.ref tls, .ref o0, .ref p0, .int x_tl_3, .int y_tl_490_4])), (o0, .inr (5, [.ref o0r, .int x_o0_1])), (o0r, .inl (ct 1, 60000, .inl k_o0r90_5))] _ := hP
          have hD : va_D A [(tl, .inr (10, [.ref tls, .ref o0, .ref p0, .int x_tl_3, .int y_tl_490_4])), (o0, .inr (5, [.ref o0r, .int x_o0_1])), (o0r, .inl (ct 1, 60000, .inl k_o0r90_5))] := hD
          refine lv_iconst (v := 5) hx hb dX10_turnMemory_122 (by decide) ?_
          refine lv_iconst (v := 0) hx hb dX10_turnMemory_123 (by decide) ?_
          refine go_v (k1 := 0) (n1 := 0) (wr := []) [0, 1, 2] [] (rn_V (As := [.int 3, .int 3, .int r119_1, .int 5, .int 0]) (rest := []) (c_X10_putImm l D ct tl (3 : Int32) (3 : Int32) r119_1 (5 : Int32) (0 : Int32) tls o0 p0 x_tl_3 y_tl_490_4 o0r x_o0_1 k_o0r90_5 h_x_tl_3 (rg_of (show 0 ≤ y_tl_490_4.toInt ∧ y_tl_490_4.toInt ≤ 999990 by have q0 := h_x_tl_4.1; have q1 := h_x_tl_4.2; have q2 := hp75_8; have q3 := hp90_7; omega)) h_x_o0_1 _) (cb_of (n := 5) hn mw_1341 mw_10 mw_1338 mhX10_putImm ⟨(Nat.le_of_ble_eq_true rfl), (Nat.le_of_ble_eq_true rfl)⟩) hx hb hml hown hn hK hSK hZ hS mw_1340 mw_s154 (ci := 10) (q0 := 0) rfl rfl rfl rfl hl.1 (Nat.le_of_ble_eq_true rfl) dX10_turnMemory_124 ⟨(Nat.le_of_ble_eq_true rfl), (Nat.le_of_ble_eq_true rfl)⟩) hP hD hS hA rfl rfl (by decide) (by decide) (by decide) (Nat.le_of_ble_eq_true rfl) (Nat.le_of_ble_eq_true rfl) (fun u124_2 H locs hp124_3 hP hD hS => ?_)
          obtain ⟨y_tl_4124_4, k_o0r124_5⟩ := u124_2
          obtain ⟨hp124_6, hp124_7⟩ := hp124_3
          have hp124_6 : rg y_tl_4124_4 1 1000001 := hp124_6
          have hp124_7 : y_tl_4124_4.toInt = y_tl_490_4.toInt + 1 := hp124_7
          have hP : va_P D vwCl [(tl, .inr (10, [.ref tls, .ref o0, .ref p0, .int x_tl_3, .int y_tl_4124_4])), (o0, .inr (5, [.ref o0r, .int x_o0_1])), (o0r, .inl (ct 1, 60000, .inl k_o0r124_5))] _ := hP
          have hD : va_D A [(tl, .inr (10, [.ref tls, .ref o0, .ref p0, .int x_tl_3, .int y_tl_4124_4])), (o0, .inr (5, [.ref o0r, .int x_o0_1])), (o0r, .inl (ct 1, 60000, .inl k_o0r124_5))] := hD
          refine lv_goto (tgt := 172) hx hb dX10_turnMemory_127 (by decide) ?_
          exact endq_v hQ hx hb hr hlocks dX10_turnMemory_172 (y_tl_4124_4, k_o0r124_5) ⟨hp124_6, (show x_tl_4.toInt + 3 ≤ y_tl_4124_4.toInt ∧ y_tl_4124_4.toInt ≤ x_tl_4.toInt + 6 by have q0 := hp75_8; have q1 := hp90_7; have q2 := hp124_7; omega), (show y_tl_4124_4.toInt = x_tl_4.toInt + ((d : Nat) : Int) by have q0 := r19_3.1; have q1 := r19_3.2; have q2 := hk0_4; have q3 := hk0_7; have q4 := hk4_1; have q5 := hp6_5; have q6 := hk75_1; have q7 := hp75_8; have q8 := hp75_9; have q9 := hp75_10; have q10 := hp90_7; have q11 := hp124_7; omega)⟩ hP hD hS [0, 1, 2] rfl (by decide) rfl (Nat.le_of_ble_eq_true rfl) (Nat.le_of_ble_eq_true rfl)
set_option maxHeartbeats 2000000 in
theorem c_X10_turnOne_w (l : Launch) (D : va_G) (ct : Nat → ClassId) (d : Nat) (cc : Int32) (kk : Int32) (oo : Int32) (tl : Nat) (v0 : Int32) (tls : Nat) (o0 : Nat) (p0 : Nat) (x_tl_3 : Int32) (x_tl_4 : Int32) (p0r : Nat) (x_p0_1 : Int32) (g_p0r : Nat → Int64) (o0r : Nat) (x_o0_1 : Int32) (g_o0r : Nat → Int32) (g_tls : Nat → Int32) (h_v0 : rg v0 0 3999) (h_x_tl_3 : rg x_tl_3 0 1) (h_x_tl_4 : rg x_tl_4 0 999500) (h_x_p0_1 : rg x_p0_1 0 4000) (h_x_o0_1 : rg x_o0_1 0 60000) (h_g_tls : Rg g_tls 4001 0 1073741824) (hq0 : v0.toInt < x_p0_1.toInt) (hq1 : (((g_p0r v0.toNatClampNeg).toInt % 8 = 7 ∨ (g_p0r v0.toNatClampNeg).toInt % 8 = 4) → (g_p0r v0.toNatClampNeg).toInt % 256 ≤ 207) ∧ ((g_p0r v0.toNatClampNeg).toInt / 256) % 16 ≤ 10 ∧ ((g_p0r v0.toNatClampNeg).toInt / 4096) % 16 ≤ 10) (hq2 : cc.toInt = (g_p0r v0.toNatClampNeg).toInt % 256) (hq3 : kk.toInt = (g_p0r v0.toNatClampNeg).toInt / 4294967296) (hq4 : oo.toInt = ((g_p0r v0.toNatClampNeg).toInt / 65536 + 32768) % 65536 - 32768) (hg0 : TWo cc.toInt kk.toInt oo.toInt d) : KV (S := Int32 × (Nat → Int32)) l yX10_turnOne cX10_turnOne 5 none 5 119 D ct [.ref tl, .int v0] [(tl, .inr (10, [.ref tls, .ref o0, .ref p0, .int x_tl_3, .int x_tl_4])), (p0, .inr (7, [.ref p0r, .int x_p0_1])), (p0r, .inl (ct 2, 4000, .inr (.inl g_p0r))), (o0, .inr (5, [.ref o0r, .int x_o0_1])), (o0r, .inl (ct 1, 60000, .inl g_o0r)), (tls, .inl (ct 1, 4001, .inl g_tls))] 0 0 (fun (u : Int32 × (Nat → Int32)) => match u with | (y_tl_4, k_o0r) => rg y_tl_4 1 1000001 ∧ (y_tl_4.toInt = x_tl_4.toInt + ((d : Nat) : Int))) (fun (u : Int32 × (Nat → Int32)) => match u with | (y_tl_4, k_o0r) => [(tl, .inr (10, [.ref tls, .ref o0, .ref p0, .int x_tl_3, .int y_tl_4])), (p0, .inr (7, [.ref p0r, .int x_p0_1])), (p0r, .inl (ct 2, 4000, .inr (.inl g_p0r))), (o0, .inr (5, [.ref o0r, .int x_o0_1])), (o0r, .inl (ct 1, 60000, .inl k_o0r)), (tls, .inl (ct 1, 4001, .inl g_tls))]) := by
  refine KVq_of (by decide) (Nat.le_of_ble_eq_true rfl) (fun p e s m below meth c A Q C0 hA H locs hS hP hD hQ ls hl => ?_)
  obtain ⟨hx, hb, hr, hown, hin, hml, hlocks, hn, hK, hZ, hSK⟩ := C0
  have hl : lv_has ls 5 [(0, .ref tl), (1, .int v0)] := hl
  refine lv_aload_n hx hb dX10_turnOne_0 rfl (lv_at hl 0 rfl) ?_
  refine va_get (D := D) (ci := 10) (v := .ref p0) (C := RX10) (T := TX10) (N := 5) hx hb (htX10 hn) (fun _ h => h) hown hK hP 0 rfl rfl 2 (by decide) (hn.get mw_290 rfl) (fun _ h9 => h9) rfl dX10_turnOne_1 ?_
  refine lv_iload_n hx hb dX10_turnOne_4 rfl (lv_at hl 1 rfl) ?_
  refine go_l (k1 := 0) (n1 := 0) (wr := [(tl, .inr (10, [.ref tls, .ref o0, .ref p0, .int x_tl_3, .int x_tl_4])), (o0, .inr (5, [.ref o0r, .int x_o0_1])), (o0r, .inl (ct 1, 60000, .inl g_o0r)), (tls, .inl (ct 1, 4001, .inl g_tls))]) [1, 2] [0, 3, 4, 5] (rn_VN (As := [.int v0]) (rest := []) (c_X7_at l D ct p0 v0 p0r x_p0_1 g_p0r h_x_p0_1 _) (cn_of (n := 1) hn mw_937 mw_7 mw_1298 mhX7_at ⟨(Nat.le_of_ble_eq_true rfl), (Nat.le_of_ble_eq_true rfl)⟩) hx hb hml hown hn hK hSK hZ hS mw_936 mw_s92 (ci := 7) (q0 := 0) rfl rfl rfl rfl hl.1 (Nat.le_of_ble_eq_true rfl) dX10_turnOne_5 ⟨(Nat.le_of_ble_eq_true rfl), (Nat.le_of_ble_eq_true rfl)⟩) hP hD hS hA rfl rfl (by decide) (by decide) (by decide) (Nat.le_of_ble_eq_true rfl) (Nat.le_of_ble_eq_true rfl) (fun r5_1 u5_2 H locs hp5_3 hP hD hS => ?_)
  have hp5_4 := hp5_3
  have hp5_4 : 0 ≤ v0.toInt ∧ v0.toInt < x_p0_1.toInt → r5_1.toInt = (g_p0r v0.toNatClampNeg).toInt := hp5_4
  have hP : va_P D vwCl [(tl, .inr (10, [.ref tls, .ref o0, .ref p0, .int x_tl_3, .int x_tl_4])), (o0, .inr (5, [.ref o0r, .int x_o0_1])), (o0r, .inl (ct 1, 60000, .inl g_o0r)), (tls, .inl (ct 1, 4001, .inl g_tls)), (p0, .inr (7, [.ref p0r, .int x_p0_1])), (p0r, .inl (ct 2, 4000, .inr (.inl g_p0r)))] _ := hP
  have hD : va_D A [(tl, .inr (10, [.ref tls, .ref o0, .ref p0, .int x_tl_3, .int x_tl_4])), (o0, .inr (5, [.ref o0r, .int x_o0_1])), (o0r, .inl (ct 1, 60000, .inl g_o0r)), (tls, .inl (ct 1, 4001, .inl g_tls)), (p0, .inr (7, [.ref p0r, .int x_p0_1])), (p0r, .inl (ct 2, 4000, .inr (.inl g_p0r)))] := hD
  have hk8_1 : cc.toInt = r5_1.toInt % 256 := FF.mk (by have h1 := FF.out hq2; have h2 := (show r5_1.toInt = (g_p0r v0.toNatClampNeg).toInt by have q0 := h_v0.1; have q1 := hq0; have q2 := hp5_4; omega); rw [h2]; exact h1)
  have hk8_2 : kk.toInt = r5_1.toInt / 4294967296 := FF.mk (by have h1 := FF.out hq3; have h2 := (show r5_1.toInt = (g_p0r v0.toNatClampNeg).toInt by have q0 := h_v0.1; have q1 := hq0; have q2 := hp5_4; omega); rw [h2]; exact h1)
  have hk8_3 : oo.toInt = (r5_1.toInt / 65536 + 32768) % 65536 - 32768 := FF.mk (by have h1 := FF.out hq4; have h2 := (show r5_1.toInt = (g_p0r v0.toNatClampNeg).toInt by have q0 := h_v0.1; have q1 := hq0; have q2 := hp5_4; omega); rw [h2]; exact h1)
  refine lv_lstore_n (lv' := [(2, .long r5_1), (0, .ref tl), (1, .int v0)]) hx hb dX10_turnOne_8 rfl hl (by decide) rfl (fun ls hl => ?_)
  refine lv_lload_n hx hb dX10_turnOne_9 rfl (lv_at hl 0 rfl) ?_
  refine go_i (k1 := 0) (n1 := 0) (wr := [(tl, .inr (10, [.ref tls, .ref o0, .ref p0, .int x_tl_3, .int x_tl_4])), (o0, .inr (5, [.ref o0r, .int x_o0_1])), (o0r, .inl (ct 1, 60000, .inl g_o0r)), (tls, .inl (ct 1, 4001, .inl g_tls)), (p0, .inr (7, [.ref p0r, .int x_p0_1])), (p0r, .inl (ct 2, 4000, .inr (.inl g_p0r)))]) [] [0, 1, 2, 3, 4, 5] (rn_SN (As := [.long r5_1]) (rest := []) (c_X7_codeOf l D ct r5_1  _) (cn_of (n := 1) hn mw_956 mw_7 mw_1299 mhX7_codeOf ⟨(Nat.le_of_ble_eq_true rfl), (Nat.le_of_ble_eq_true rfl)⟩) hx hb hml hown hn hK hSK hZ hS mw_955 rfl hl.1 (Nat.le_of_ble_eq_true rfl) dX10_turnOne_10 ⟨(Nat.le_of_ble_eq_true rfl), (Nat.le_of_ble_eq_true rfl)⟩) hP hD hS hA rfl rfl (by decide) (by decide) (by decide) (Nat.le_of_ble_eq_true rfl) (Nat.le_of_ble_eq_true rfl) (fun r10_1 u10_2 H locs hp10_3 hP hD hS => ?_)
  obtain ⟨hp10_4, hp10_5⟩ := hp10_3
  have hp10_4 : rg r10_1 0 255 := hp10_4
  have hp10_5 : r10_1.toInt = r5_1.toInt % 256 := hp10_5
  have hP : va_P D vwCl [(tl, .inr (10, [.ref tls, .ref o0, .ref p0, .int x_tl_3, .int x_tl_4])), (o0, .inr (5, [.ref o0r, .int x_o0_1])), (o0r, .inl (ct 1, 60000, .inl g_o0r)), (tls, .inl (ct 1, 4001, .inl g_tls)), (p0, .inr (7, [.ref p0r, .int x_p0_1])), (p0r, .inl (ct 2, 4000, .inr (.inl g_p0r)))] _ := hP
  have hD : va_D A [(tl, .inr (10, [.ref tls, .ref o0, .ref p0, .int x_tl_3, .int x_tl_4])), (o0, .inr (5, [.ref o0r, .int x_o0_1])), (o0r, .inl (ct 1, 60000, .inl g_o0r)), (tls, .inl (ct 1, 4001, .inl g_tls)), (p0, .inr (7, [.ref p0r, .int x_p0_1])), (p0r, .inl (ct 2, 4000, .inr (.inl g_p0r)))] := hD
  have hk13_1 : r10_1.toInt = cc.toInt := FF.mk (by have h1 := FF.out hk8_1; have h2 := FF.out hp10_5; omega)
  refine lv_istore (lv' := [(4, .int r10_1), (2, .long r5_1), (0, .ref tl), (1, .int v0)]) hx hb dX10_turnOne_13 hl (by decide) rfl (fun ls hl => ?_)
  refine lv_iload hx hb dX10_turnOne_15 (lv_at hl 0 rfl) ?_
  refine go_i (k1 := 0) (n1 := 0) (wr := [(tl, .inr (10, [.ref tls, .ref o0, .ref p0, .int x_tl_3, .int x_tl_4])), (o0, .inr (5, [.ref o0r, .int x_o0_1])), (o0r, .inl (ct 1, 60000, .inl g_o0r)), (tls, .inl (ct 1, 4001, .inl g_tls)), (p0, .inr (7, [.ref p0r, .int x_p0_1])), (p0r, .inl (ct 2, 4000, .inr (.inl g_p0r)))]) [] [0, 1, 2, 3, 4, 5] (rn_SN (As := [.int r10_1]) (rest := []) (c_X7_isOp l D ct r10_1  _) (cn_of (n := 1) hn mw_962 mw_7 mw_1300 mhX7_isOp ⟨(Nat.le_of_ble_eq_true rfl), (Nat.le_of_ble_eq_true rfl)⟩) hx hb hml hown hn hK hSK hZ hS mw_961 rfl hl.1 (Nat.le_of_ble_eq_true rfl) dX10_turnOne_17 ⟨(Nat.le_of_ble_eq_true rfl), (Nat.le_of_ble_eq_true rfl)⟩) hP hD hS hA rfl rfl (by decide) (by decide) (by decide) (Nat.le_of_ble_eq_true rfl) (Nat.le_of_ble_eq_true rfl) (fun r17_1 u17_2 H locs hp17_3 hP hD hS => ?_)
  obtain ⟨hp17_4, hp17_5, hp17_6⟩ := hp17_3
  have hp17_4 : rg r17_1 0 1 := hp17_4
  have hp17_5 : r17_1.toInt = 1 → r10_1.toInt % 8 = 7 ∨ r10_1.toInt % 8 = 4 := hp17_5
  have hp17_6 : r17_1.toInt = 0 → ¬ (r10_1.toInt % 8 = 7 ∨ r10_1.toInt % 8 = 4) := hp17_6
  have hP : va_P D vwCl [(tl, .inr (10, [.ref tls, .ref o0, .ref p0, .int x_tl_3, .int x_tl_4])), (o0, .inr (5, [.ref o0r, .int x_o0_1])), (o0r, .inl (ct 1, 60000, .inl g_o0r)), (tls, .inl (ct 1, 4001, .inl g_tls)), (p0, .inr (7, [.ref p0r, .int x_p0_1])), (p0r, .inl (ct 2, 4000, .inr (.inl g_p0r)))] _ := hP
  have hD : va_D A [(tl, .inr (10, [.ref tls, .ref o0, .ref p0, .int x_tl_3, .int x_tl_4])), (o0, .inr (5, [.ref o0r, .int x_o0_1])), (o0r, .inl (ct 1, 60000, .inl g_o0r)), (tls, .inl (ct 1, 4001, .inl g_tls)), (p0, .inr (7, [.ref p0r, .int x_p0_1])), (p0r, .inl (ct 2, 4000, .inr (.inl g_p0r)))] := hD
  refine lv_if_eq (tgt := 31) hx hb dX10_turnOne_20 (by decide) (fun c20_1 => ?_) (fun c20_1 => ?_)
  · have t20_2 := (i_eq c20_1)
    have r20_3 : rg r17_1 0 0 := rg_eqA t20_2 hp17_4 (show rg (0 : Int32) 0 0 from rg_l (by decide)) (by decide)
    refine lv_iload hx hb dX10_turnOne_31 (lv_at hl 0 rfl) ?_
    refine lv_sipush (v := 149) hx hb dX10_turnOne_33 (by decide) ?_
    refine lv_icmp_ne (tgt := 48) hx hb dX10_turnOne_36 (by decide) (fun c36_1 => ?_) (fun c36_1 => ?_)
    · have t36_2 := (i_ne c36_1)
      refine lv_iload hx hb dX10_turnOne_48 (lv_at hl 0 rfl) ?_
      refine go_i (k1 := 0) (n1 := 0) (wr := [(tl, .inr (10, [.ref tls, .ref o0, .ref p0, .int x_tl_3, .int x_tl_4])), (o0, .inr (5, [.ref o0r, .int x_o0_1])), (o0r, .inl (ct 1, 60000, .inl g_o0r)), (tls, .inl (ct 1, 4001, .inl g_tls)), (p0, .inr (7, [.ref p0r, .int x_p0_1])), (p0r, .inl (ct 2, 4000, .inr (.inl g_p0r)))]) [] [0, 1, 2, 3, 4, 5] (rn_SN (As := [.int r10_1]) (rest := []) (c_X7_isJump_w l D ct r10_1 hp10_4 _) (cn_of (n := 1) hn mw_971 mw_7 mw_1359 mhX7_isJump ⟨(Nat.le_of_ble_eq_true rfl), (Nat.le_of_ble_eq_true rfl)⟩) hx hb hml hown hn hK hSK hZ hS mw_970 rfl hl.1 (Nat.le_of_ble_eq_true rfl) dX10_turnOne_50 ⟨(Nat.le_of_ble_eq_true rfl), (Nat.le_of_ble_eq_true rfl)⟩) hP hD hS hA rfl rfl (by decide) (by decide) (by decide) (Nat.le_of_ble_eq_true rfl) (Nat.le_of_ble_eq_true rfl) (fun r50_1 u50_2 H locs hp50_3 hP hD hS => ?_)
      obtain ⟨hp50_4, hp50_5, hp50_6⟩ := hp50_3
      have hp50_4 : rg r50_1 0 1 := hp50_4
      have hp50_5 : r50_1.toInt = 1 → r10_1.toInt % 8 = 5 ∨ r10_1.toInt % 8 = 6 := hp50_5
      have hp50_6 : r50_1.toInt = 0 → ¬ (r10_1.toInt % 8 = 5 ∨ r10_1.toInt % 8 = 6) := hp50_6
      have hP : va_P D vwCl [(tl, .inr (10, [.ref tls, .ref o0, .ref p0, .int x_tl_3, .int x_tl_4])), (o0, .inr (5, [.ref o0r, .int x_o0_1])), (o0r, .inl (ct 1, 60000, .inl g_o0r)), (tls, .inl (ct 1, 4001, .inl g_tls)), (p0, .inr (7, [.ref p0r, .int x_p0_1])), (p0r, .inl (ct 2, 4000, .inr (.inl g_p0r)))] _ := hP
      have hD : va_D A [(tl, .inr (10, [.ref tls, .ref o0, .ref p0, .int x_tl_3, .int x_tl_4])), (o0, .inr (5, [.ref o0r, .int x_o0_1])), (o0r, .inl (ct 1, 60000, .inl g_o0r)), (tls, .inl (ct 1, 4001, .inl g_tls)), (p0, .inr (7, [.ref p0r, .int x_p0_1])), (p0r, .inl (ct 2, 4000, .inr (.inl g_p0r)))] := hD
      refine lv_if_eq (tgt := 65) hx hb dX10_turnOne_53 (by decide) (fun c53_1 => ?_) (fun c53_1 => ?_)
      · have t53_2 := (i_eq c53_1)
        have r53_3 : rg r50_1 0 0 := rg_eqA t53_2 hp50_4 (show rg (0 : Int32) 0 0 from rg_l (by decide)) (by decide)
        refine lv_iload hx hb dX10_turnOne_65 (lv_at hl 0 rfl) ?_
        refine go_i (k1 := 0) (n1 := 0) (wr := [(tl, .inr (10, [.ref tls, .ref o0, .ref p0, .int x_tl_3, .int x_tl_4])), (o0, .inr (5, [.ref o0r, .int x_o0_1])), (o0r, .inl (ct 1, 60000, .inl g_o0r)), (tls, .inl (ct 1, 4001, .inl g_tls)), (p0, .inr (7, [.ref p0r, .int x_p0_1])), (p0r, .inl (ct 2, 4000, .inr (.inl g_p0r)))]) [] [0, 1, 2, 3, 4, 5] (rn_SN (As := [.int r10_1]) (rest := []) (c_X7_isRead_w l D ct r10_1 hp10_4 _) (cn_of (n := 1) hn mw_983 mw_7 mw_1369 mhX7_isRead ⟨(Nat.le_of_ble_eq_true rfl), (Nat.le_of_ble_eq_true rfl)⟩) hx hb hml hown hn hK hSK hZ hS mw_982 rfl hl.1 (Nat.le_of_ble_eq_true rfl) dX10_turnOne_67 ⟨(Nat.le_of_ble_eq_true rfl), (Nat.le_of_ble_eq_true rfl)⟩) hP hD hS hA rfl rfl (by decide) (by decide) (by decide) (Nat.le_of_ble_eq_true rfl) (Nat.le_of_ble_eq_true rfl) (fun r67_1 u67_2 H locs hp67_3 hP hD hS => ?_)
        obtain ⟨hp67_4, hp67_5, hp67_6⟩ := hp67_3
        have hp67_4 : rg r67_1 0 1 := hp67_4
        have hp67_5 : r67_1.toInt = 1 → (r10_1.toInt = 32 ∨ r10_1.toInt = 40 ∨ r10_1.toInt = 48 ∨ r10_1.toInt = 64 ∨ r10_1.toInt = 72 ∨ r10_1.toInt = 80) := hp67_5
        have hp67_6 : r67_1.toInt = 0 → ¬ (r10_1.toInt = 32 ∨ r10_1.toInt = 40 ∨ r10_1.toInt = 48 ∨ r10_1.toInt = 64 ∨ r10_1.toInt = 72 ∨ r10_1.toInt = 80) := hp67_6
        have hP : va_P D vwCl [(tl, .inr (10, [.ref tls, .ref o0, .ref p0, .int x_tl_3, .int x_tl_4])), (o0, .inr (5, [.ref o0r, .int x_o0_1])), (o0r, .inl (ct 1, 60000, .inl g_o0r)), (tls, .inl (ct 1, 4001, .inl g_tls)), (p0, .inr (7, [.ref p0r, .int x_p0_1])), (p0r, .inl (ct 2, 4000, .inr (.inl g_p0r)))] _ := hP
        have hD : va_D A [(tl, .inr (10, [.ref tls, .ref o0, .ref p0, .int x_tl_3, .int x_tl_4])), (o0, .inr (5, [.ref o0r, .int x_o0_1])), (o0r, .inl (ct 1, 60000, .inl g_o0r)), (tls, .inl (ct 1, 4001, .inl g_tls)), (p0, .inr (7, [.ref p0r, .int x_p0_1])), (p0r, .inl (ct 2, 4000, .inr (.inl g_p0r)))] := hD
        refine lv_if_eq (tgt := 81) hx hb dX10_turnOne_70 (by decide) (fun c70_1 => ?_) (fun c70_1 => ?_)
        · have t70_2 := (i_eq c70_1)
          have r70_3 : rg r67_1 0 0 := rg_eqA t70_2 hp67_4 (show rg (0 : Int32) 0 0 from rg_l (by decide)) (by decide)
          refine lv_aload_n hx hb dX10_turnOne_81 rfl (lv_at hl 2 rfl) ?_
          refine lv_lload_n hx hb dX10_turnOne_82 rfl (lv_at hl 1 rfl) ?_
          refine go_v (k1 := 0) (n1 := 0) (wr := [(tls, .inl (ct 1, 4001, .inl g_tls)), (p0, .inr (7, [.ref p0r, .int x_p0_1])), (p0r, .inl (ct 2, 4000, .inr (.inl g_p0r)))]) [0, 1, 2] [3, 4, 5] (rn_V (As := [.long r5_1]) (rest := []) (c_X10_turnMemory_w l D ct d cc kk oo tl r5_1 tls o0 p0 x_tl_3 x_tl_4 o0r x_o0_1 g_o0r h_x_tl_3 (rg_w h_x_tl_4 (by decide)) h_x_o0_1 (show cc.toInt = r5_1.toInt % 256 by have q0 := hp10_5; have q1 := hk13_1; omega) (show kk.toInt = r5_1.toInt / 4294967296 by have q0 := (rl_any r5_1).1; have q1 := (rl_any r5_1).2; have q2 := (rg_any kk).1; have q3 := (rg_any kk).2; have q4 := (rl_any (g_p0r v0.toNatClampNeg)).1; have q5 := (rl_any (g_p0r v0.toNatClampNeg)).2; have q6 := h_x_p0_1.1; have q7 := h_x_p0_1.2; have q8 := h_v0.1; have q9 := h_v0.2; have q10 := (rg_any cc).1; have q11 := (rg_any cc).2; have q12 := (rg_any oo).1; have q13 := (rg_any oo).2; have q14 := hp10_4.1; have q15 := hp10_4.2; have q16 := r20_3.1; have q17 := r20_3.2; have q18 := (show rg (149 : Int32) 149 149 from rg_l (by decide)).1; have q19 := (show rg (149 : Int32) 149 149 from rg_l (by decide)).2; have q20 := r53_3.1; have q21 := r53_3.2; have q22 := r70_3.1; have q23 := r70_3.2; have q24 := (show rg (0 : Int32) 0 0 from rg_l (by decide)).1; have q25 := (show rg (0 : Int32) 0 0 from rg_l (by decide)).2; have q26 := hq0; have q27 := hq1; have q28 := hq2; have q29 := hq3; have q30 := hq4; have q31 := hp5_4; have q32 := hk8_1; have q33 := hk8_2; have q34 := hk8_3; have q35 := hp10_5; have q36 := hk13_1; have q37 := hp17_5; have q38 := hp17_6; have q39 := t20_2; have q40 := t36_2; have q41 := hp50_5; have q42 := hp50_6; have q43 := t53_2; have q44 := hp67_5; have q45 := hp67_6; have q46 := t70_2; have q47 := (show (0 : Int32).toInt = 0 from by decide); have q48 := (show (149 : Int32).toInt = 149 from by decide); omega) (show oo.toInt = (r5_1.toInt / 65536 + 32768) % 65536 - 32768 by have q0 := hk8_3; omega) (hg0.2.2.2.2 (show ¬ (cc.toInt % 8 = 7 ∨ cc.toInt % 8 = 4) ∧ cc.toInt ≠ 149 ∧ ¬ (cc.toInt % 8 = 5 ∨ cc.toInt % 8 = 6) ∧ ¬ (cc.toInt = 32 ∨ cc.toInt = 40 ∨ cc.toInt = 48 ∨ cc.toInt = 64 ∨ cc.toInt = 72 ∨ cc.toInt = 80) by have q0 := hk13_1; have q1 := hp17_6; have q2 := t20_2; have q3 := t36_2; have q4 := hp50_6; have q5 := t53_2; have q6 := hp67_6; have q7 := t70_2; have q8 := (show (0 : Int32).toInt = 0 from by decide); have q9 := (show (149 : Int32).toInt = 149 from by decide); omega)) _) (cb_of (n := 1) hn mw_1378 mw_10 mw_1375 mhX10_turnMemory ⟨(Nat.le_of_ble_eq_true rfl), (Nat.le_of_ble_eq_true rfl)⟩) hx hb hml hown hn hK hSK hZ hS mw_1377 mw_s161 (ci := 10) (q0 := 0) rfl rfl rfl rfl hl.1 (Nat.le_of_ble_eq_true rfl) dX10_turnOne_83 ⟨(Nat.le_of_ble_eq_true rfl), (Nat.le_of_ble_eq_true rfl)⟩) hP hD hS hA rfl rfl (by decide) (by decide) (by decide) (Nat.le_of_ble_eq_true rfl) (Nat.le_of_ble_eq_true rfl) (fun u83_2 H locs hp83_3 hP hD hS => ?_)
          obtain ⟨y_tl_483_4, k_o0r83_5⟩ := u83_2
          obtain ⟨hp83_6, hp83_7, hp83_8⟩ := hp83_3
          have hp83_6 : rg y_tl_483_4 1 1000001 := hp83_6
          have hp83_7 : x_tl_4.toInt + 3 ≤ y_tl_483_4.toInt ∧ y_tl_483_4.toInt ≤ x_tl_4.toInt + 6 := hp83_7
          have hp83_8 : y_tl_483_4.toInt = x_tl_4.toInt + ((d : Nat) : Int) := hp83_8
          have hP : va_P D vwCl [(tls, .inl (ct 1, 4001, .inl g_tls)), (p0, .inr (7, [.ref p0r, .int x_p0_1])), (p0r, .inl (ct 2, 4000, .inr (.inl g_p0r))), (tl, .inr (10, [.ref tls, .ref o0, .ref p0, .int x_tl_3, .int y_tl_483_4])), (o0, .inr (5, [.ref o0r, .int x_o0_1])), (o0r, .inl (ct 1, 60000, .inl k_o0r83_5))] _ := hP
          have hD : va_D A [(tls, .inl (ct 1, 4001, .inl g_tls)), (p0, .inr (7, [.ref p0r, .int x_p0_1])), (p0r, .inl (ct 2, 4000, .inr (.inl g_p0r))), (tl, .inr (10, [.ref tls, .ref o0, .ref p0, .int x_tl_3, .int y_tl_483_4])), (o0, .inr (5, [.ref o0r, .int x_o0_1])), (o0r, .inl (ct 1, 60000, .inl k_o0r83_5))] := hD
          exact endq_v hQ hx hb hr hlocks dX10_turnOne_86 (y_tl_483_4, k_o0r83_5) ⟨hp83_6, (show y_tl_483_4.toInt = x_tl_4.toInt + ((d : Nat) : Int) by have q0 := hp83_8; omega)⟩ hP hD hS [3, 1, 2, 4, 5, 0] rfl (by decide) rfl (Nat.le_of_ble_eq_true rfl) (Nat.le_of_ble_eq_true rfl)
        · have t70_2 := (i_ne c70_1)
          have r70_3 : rg r67_1 1 1 := rg_neAl t70_2 hp67_4 (show rg (0 : Int32) 0 0 from rg_l (by decide)) (by decide)
          refine lv_aload_n hx hb dX10_turnOne_73 rfl (lv_at hl 2 rfl) ?_
          refine lv_lload_n hx hb dX10_turnOne_74 rfl (lv_at hl 1 rfl) ?_
          refine go_v (k1 := 0) (n1 := 0) (wr := [(tls, .inl (ct 1, 4001, .inl g_tls)), (p0, .inr (7, [.ref p0r, .int x_p0_1])), (p0r, .inl (ct 2, 4000, .inr (.inl g_p0r)))]) [0, 1, 2] [3, 4, 5] (rn_V (As := [.long r5_1]) (rest := []) (c_X10_turnRead_w l D ct d cc kk tl r5_1 tls o0 p0 x_tl_3 x_tl_4 o0r x_o0_1 g_o0r h_x_tl_3 (rg_w h_x_tl_4 (by decide)) h_x_o0_1 (show cc.toInt = r5_1.toInt % 256 by have q0 := hp10_5; have q1 := hk13_1; omega) (show kk.toInt = r5_1.toInt / 4294967296 by have q0 := (rl_any r5_1).1; have q1 := (rl_any r5_1).2; have q2 := (rg_any kk).1; have q3 := (rg_any kk).2; have q4 := (rl_any (g_p0r v0.toNatClampNeg)).1; have q5 := (rl_any (g_p0r v0.toNatClampNeg)).2; have q6 := h_x_p0_1.1; have q7 := h_x_p0_1.2; have q8 := h_v0.1; have q9 := h_v0.2; have q10 := (rg_any cc).1; have q11 := (rg_any cc).2; have q12 := (rg_any oo).1; have q13 := (rg_any oo).2; have q14 := hp10_4.1; have q15 := hp10_4.2; have q16 := r20_3.1; have q17 := r20_3.2; have q18 := (show rg (149 : Int32) 149 149 from rg_l (by decide)).1; have q19 := (show rg (149 : Int32) 149 149 from rg_l (by decide)).2; have q20 := r53_3.1; have q21 := r53_3.2; have q22 := r70_3.1; have q23 := r70_3.2; have q24 := (show rg (0 : Int32) 0 0 from rg_l (by decide)).1; have q25 := (show rg (0 : Int32) 0 0 from rg_l (by decide)).2; have q26 := hq0; have q27 := hq1; have q28 := hq2; have q29 := hq3; have q30 := hq4; have q31 := hp5_4; have q32 := hk8_1; have q33 := hk8_2; have q34 := hk8_3; have q35 := hp10_5; have q36 := hk13_1; have q37 := hp17_5; have q38 := hp17_6; have q39 := t20_2; have q40 := t36_2; have q41 := hp50_5; have q42 := hp50_6; have q43 := t53_2; have q44 := hp67_5; have q45 := hp67_6; have q46 := t70_2; have q47 := (show (0 : Int32).toInt = 0 from by decide); have q48 := (show (149 : Int32).toInt = 149 from by decide); omega) (hg0.2.2.2.1 (show ¬ (cc.toInt % 8 = 7 ∨ cc.toInt % 8 = 4) ∧ cc.toInt ≠ 149 ∧ ¬ (cc.toInt % 8 = 5 ∨ cc.toInt % 8 = 6) ∧ (cc.toInt = 32 ∨ cc.toInt = 40 ∨ cc.toInt = 48 ∨ cc.toInt = 64 ∨ cc.toInt = 72 ∨ cc.toInt = 80) by have q0 := r70_3.1; have q1 := r70_3.2; have q2 := hk13_1; have q3 := hp17_6; have q4 := t20_2; have q5 := hp50_6; have q6 := t53_2; have q7 := hp67_5; have q8 := (show (0 : Int32).toInt = 0 from by decide); omega)) _) (cb_of (n := 1) hn mw_1373 mw_10 mw_1370 mhX10_turnRead ⟨(Nat.le_of_ble_eq_true rfl), (Nat.le_of_ble_eq_true rfl)⟩) hx hb hml hown hn hK hSK hZ hS mw_1372 mw_s160 (ci := 10) (q0 := 0) rfl rfl rfl rfl hl.1 (Nat.le_of_ble_eq_true rfl) dX10_turnOne_75 ⟨(Nat.le_of_ble_eq_true rfl), (Nat.le_of_ble_eq_true rfl)⟩) hP hD hS hA rfl rfl (by decide) (by decide) (by decide) (Nat.le_of_ble_eq_true rfl) (Nat.le_of_ble_eq_true rfl) (fun u75_2 H locs hp75_3 hP hD hS => ?_)
          obtain ⟨y_tl_475_4, k_o0r75_5⟩ := u75_2
          obtain ⟨hp75_6, hp75_7⟩ := hp75_3
          have hp75_6 : rg y_tl_475_4 1 1000001 := hp75_6
          have hp75_7 : y_tl_475_4.toInt = x_tl_4.toInt + ((d : Nat) : Int) := hp75_7
          have hP : va_P D vwCl [(tls, .inl (ct 1, 4001, .inl g_tls)), (p0, .inr (7, [.ref p0r, .int x_p0_1])), (p0r, .inl (ct 2, 4000, .inr (.inl g_p0r))), (tl, .inr (10, [.ref tls, .ref o0, .ref p0, .int x_tl_3, .int y_tl_475_4])), (o0, .inr (5, [.ref o0r, .int x_o0_1])), (o0r, .inl (ct 1, 60000, .inl k_o0r75_5))] _ := hP
          have hD : va_D A [(tls, .inl (ct 1, 4001, .inl g_tls)), (p0, .inr (7, [.ref p0r, .int x_p0_1])), (p0r, .inl (ct 2, 4000, .inr (.inl g_p0r))), (tl, .inr (10, [.ref tls, .ref o0, .ref p0, .int x_tl_3, .int y_tl_475_4])), (o0, .inr (5, [.ref o0r, .int x_o0_1])), (o0r, .inl (ct 1, 60000, .inl k_o0r75_5))] := hD
          refine lv_goto (tgt := 86) hx hb dX10_turnOne_78 (by decide) ?_
          exact endq_v hQ hx hb hr hlocks dX10_turnOne_86 (y_tl_475_4, k_o0r75_5) ⟨hp75_6, (show y_tl_475_4.toInt = x_tl_4.toInt + ((d : Nat) : Int) by have q0 := hp75_7; omega)⟩ hP hD hS [3, 1, 2, 4, 5, 0] rfl (by decide) rfl (Nat.le_of_ble_eq_true rfl) (Nat.le_of_ble_eq_true rfl)
      · have t53_2 := (i_ne c53_1)
        have r53_3 : rg r50_1 1 1 := rg_neAl t53_2 hp50_4 (show rg (0 : Int32) 0 0 from rg_l (by decide)) (by decide)
        refine lv_aload_n hx hb dX10_turnOne_56 rfl (lv_at hl 2 rfl) ?_
        refine lv_lload_n hx hb dX10_turnOne_57 rfl (lv_at hl 1 rfl) ?_
        refine lv_iload_n hx hb dX10_turnOne_58 rfl (lv_at hl 3 rfl) ?_
        refine go_v (k1 := 0) (n1 := 0) (wr := [(p0, .inr (7, [.ref p0r, .int x_p0_1])), (p0r, .inl (ct 2, 4000, .inr (.inl g_p0r)))]) [0, 1, 2, 3] [4, 5] (rn_V (As := [.long r5_1, .int v0]) (rest := []) (c_X10_turnJump_w l D ct d cc kk tl r5_1 v0 tls o0 p0 x_tl_3 x_tl_4 o0r x_o0_1 g_o0r g_tls h_x_tl_3 (rg_w h_x_tl_4 (by decide)) h_x_o0_1 h_g_tls (show cc.toInt = r5_1.toInt % 256 by have q0 := hp10_5; have q1 := hk13_1; omega) (show kk.toInt = r5_1.toInt / 4294967296 by have q0 := (rl_any r5_1).1; have q1 := (rl_any r5_1).2; have q2 := (rg_any kk).1; have q3 := (rg_any kk).2; have q4 := (rl_any (g_p0r v0.toNatClampNeg)).1; have q5 := (rl_any (g_p0r v0.toNatClampNeg)).2; have q6 := h_x_p0_1.1; have q7 := h_x_p0_1.2; have q8 := h_v0.1; have q9 := h_v0.2; have q10 := (rg_any cc).1; have q11 := (rg_any cc).2; have q12 := (rg_any oo).1; have q13 := (rg_any oo).2; have q14 := hp10_4.1; have q15 := hp10_4.2; have q16 := r20_3.1; have q17 := r20_3.2; have q18 := (show rg (149 : Int32) 149 149 from rg_l (by decide)).1; have q19 := (show rg (149 : Int32) 149 149 from rg_l (by decide)).2; have q20 := r53_3.1; have q21 := r53_3.2; have q22 := (show rg (0 : Int32) 0 0 from rg_l (by decide)).1; have q23 := (show rg (0 : Int32) 0 0 from rg_l (by decide)).2; have q24 := hq0; have q25 := hq1; have q26 := hq2; have q27 := hq3; have q28 := hq4; have q29 := hp5_4; have q30 := hk8_1; have q31 := hk8_2; have q32 := hk8_3; have q33 := hp10_5; have q34 := hk13_1; have q35 := hp17_5; have q36 := hp17_6; have q37 := t20_2; have q38 := t36_2; have q39 := hp50_5; have q40 := hp50_6; have q41 := t53_2; have q42 := (show (0 : Int32).toInt = 0 from by decide); have q43 := (show (149 : Int32).toInt = 149 from by decide); omega) (hg0.2.2.1 (show ¬ (cc.toInt % 8 = 7 ∨ cc.toInt % 8 = 4) ∧ cc.toInt ≠ 149 ∧ (cc.toInt % 8 = 5 ∨ cc.toInt % 8 = 6) by have q0 := r53_3.1; have q1 := r53_3.2; have q2 := hk13_1; have q3 := t36_2; have q4 := hp50_5; have q5 := (show (149 : Int32).toInt = 149 from by decide); omega)) _) (cb_of (n := 2) hn mw_1363 mw_10 mw_1360 mhX10_turnJump ⟨(Nat.le_of_ble_eq_true rfl), (Nat.le_of_ble_eq_true rfl)⟩) hx hb hml hown hn hK hSK hZ hS mw_1362 mw_s158 (ci := 10) (q0 := 0) rfl rfl rfl rfl hl.1 (Nat.le_of_ble_eq_true rfl) dX10_turnOne_59 ⟨(Nat.le_of_ble_eq_true rfl), (Nat.le_of_ble_eq_true rfl)⟩) hP hD hS hA rfl rfl (by decide) (by decide) (by decide) (Nat.le_of_ble_eq_true rfl) (Nat.le_of_ble_eq_true rfl) (fun u59_2 H locs hp59_3 hP hD hS => ?_)
        obtain ⟨y_tl_459_4, k_o0r59_5⟩ := u59_2
        obtain ⟨hp59_6, hp59_7, hp59_8⟩ := hp59_3
        have hp59_6 : rg y_tl_459_4 1 1000001 := hp59_6
        have hp59_7 : x_tl_4.toInt + 1 ≤ y_tl_459_4.toInt ∧ y_tl_459_4.toInt ≤ x_tl_4.toInt + 7 := hp59_7
        have hp59_8 : y_tl_459_4.toInt = x_tl_4.toInt + ((d : Nat) : Int) := hp59_8
        have hP : va_P D vwCl [(p0, .inr (7, [.ref p0r, .int x_p0_1])), (p0r, .inl (ct 2, 4000, .inr (.inl g_p0r))), (tl, .inr (10, [.ref tls, .ref o0, .ref p0, .int x_tl_3, .int y_tl_459_4])), (o0, .inr (5, [.ref o0r, .int x_o0_1])), (o0r, .inl (ct 1, 60000, .inl k_o0r59_5)), (tls, .inl (ct 1, 4001, .inl g_tls))] _ := hP
        have hD : va_D A [(p0, .inr (7, [.ref p0r, .int x_p0_1])), (p0r, .inl (ct 2, 4000, .inr (.inl g_p0r))), (tl, .inr (10, [.ref tls, .ref o0, .ref p0, .int x_tl_3, .int y_tl_459_4])), (o0, .inr (5, [.ref o0r, .int x_o0_1])), (o0r, .inl (ct 1, 60000, .inl k_o0r59_5)), (tls, .inl (ct 1, 4001, .inl g_tls))] := hD
        refine lv_goto (tgt := 86) hx hb dX10_turnOne_62 (by decide) ?_
        exact endq_v hQ hx hb hr hlocks dX10_turnOne_86 (y_tl_459_4, k_o0r59_5) ⟨hp59_6, (show y_tl_459_4.toInt = x_tl_4.toInt + ((d : Nat) : Int) by have q0 := hp59_8; omega)⟩ hP hD hS [2, 0, 1, 3, 4, 5] rfl (by decide) rfl (Nat.le_of_ble_eq_true rfl) (Nat.le_of_ble_eq_true rfl)
    · have t36_2 := (i_eq c36_1)
      have r36_3 : rg r10_1 149 149 := rg_eqA t36_2 hp10_4 (show rg (149 : Int32) 149 149 from rg_l (by decide)) (by decide)
      refine lv_aload_n hx hb dX10_turnOne_39 rfl (lv_at hl 2 rfl) ?_
      refine lv_bipush (v := 115) hx hb dX10_turnOne_40 (by decide) ?_
      have hk42_1 : ((d : Nat) : Int) = 1 := FF.mk (hg0.2.1 (show ¬ (cc.toInt % 8 = 7 ∨ cc.toInt % 8 = 4) ∧ cc.toInt = 149 by have q0 := r36_3.1; have q1 := r36_3.2; have q2 := hk13_1; have q3 := hp17_6; have q4 := t20_2; have q5 := (show (0 : Int32).toInt = 0 from by decide); omega))
      refine go_v (k1 := 0) (n1 := 0) (wr := [(tls, .inl (ct 1, 4001, .inl g_tls)), (p0, .inr (7, [.ref p0r, .int x_p0_1])), (p0r, .inl (ct 2, 4000, .inr (.inl g_p0r)))]) [0, 1, 2] [3, 4, 5] (rn_V (As := [.int 115]) (rest := []) (c_X10_put l D ct tl (115 : Int32) tls o0 p0 x_tl_3 x_tl_4 o0r x_o0_1 g_o0r h_x_tl_3 (rg_w h_x_tl_4 (by decide)) h_x_o0_1 _) (cb_of (n := 1) hn mw_1319 mw_10 mw_1316 mhX10_put ⟨(Nat.le_of_ble_eq_true rfl), (Nat.le_of_ble_eq_true rfl)⟩) hx hb hml hown hn hK hSK hZ hS mw_1318 mw_s149 (ci := 10) (q0 := 0) rfl rfl rfl rfl hl.1 (Nat.le_of_ble_eq_true rfl) dX10_turnOne_42 ⟨(Nat.le_of_ble_eq_true rfl), (Nat.le_of_ble_eq_true rfl)⟩) hP hD hS hA rfl rfl (by decide) (by decide) (by decide) (Nat.le_of_ble_eq_true rfl) (Nat.le_of_ble_eq_true rfl) (fun u42_3 H locs hp42_4 hP hD hS => ?_)
      obtain ⟨y_tl_442_5, k_o0r42_6⟩ := u42_3
      obtain ⟨hp42_7, hp42_8⟩ := hp42_4
      have hp42_7 : rg y_tl_442_5 1 1000001 := hp42_7
      have hp42_8 : y_tl_442_5.toInt = x_tl_4.toInt + 1 := hp42_8
      have hP : va_P D vwCl [(tls, .inl (ct 1, 4001, .inl g_tls)), (p0, .inr (7, [.ref p0r, .int x_p0_1])), (p0r, .inl (ct 2, 4000, .inr (.inl g_p0r))), (tl, .inr (10, [.ref tls, .ref o0, .ref p0, .int x_tl_3, .int y_tl_442_5])), (o0, .inr (5, [.ref o0r, .int x_o0_1])), (o0r, .inl (ct 1, 60000, .inl k_o0r42_6))] _ := hP
      have hD : va_D A [(tls, .inl (ct 1, 4001, .inl g_tls)), (p0, .inr (7, [.ref p0r, .int x_p0_1])), (p0r, .inl (ct 2, 4000, .inr (.inl g_p0r))), (tl, .inr (10, [.ref tls, .ref o0, .ref p0, .int x_tl_3, .int y_tl_442_5])), (o0, .inr (5, [.ref o0r, .int x_o0_1])), (o0r, .inl (ct 1, 60000, .inl k_o0r42_6))] := hD
      refine lv_goto (tgt := 86) hx hb dX10_turnOne_45 (by decide) ?_
      exact endq_v hQ hx hb hr hlocks dX10_turnOne_86 (y_tl_442_5, k_o0r42_6) ⟨hp42_7, (show y_tl_442_5.toInt = x_tl_4.toInt + ((d : Nat) : Int) by have q0 := hk42_1; have q1 := hp42_8; omega)⟩ hP hD hS [3, 1, 2, 4, 5, 0] rfl (by decide) rfl (Nat.le_of_ble_eq_true rfl) (Nat.le_of_ble_eq_true rfl)
  · have t20_2 := (i_ne c20_1)
    have r20_3 : rg r17_1 1 1 := rg_neAl t20_2 hp17_4 (show rg (0 : Int32) 0 0 from rg_l (by decide)) (by decide)
    refine lv_aload_n hx hb dX10_turnOne_23 rfl (lv_at hl 2 rfl) ?_
    refine lv_lload_n hx hb dX10_turnOne_24 rfl (lv_at hl 1 rfl) ?_
    refine go_v (k1 := 0) (n1 := 0) (wr := [(tls, .inl (ct 1, 4001, .inl g_tls)), (p0, .inr (7, [.ref p0r, .int x_p0_1])), (p0r, .inl (ct 2, 4000, .inr (.inl g_p0r)))]) [0, 1, 2] [3, 4, 5] (rn_V (As := [.long r5_1]) (rest := []) (c_X10_turnOp_w l D ct d cc kk tl r5_1 tls o0 p0 x_tl_3 x_tl_4 o0r x_o0_1 g_o0r h_x_tl_3 (rg_w h_x_tl_4 (by decide)) h_x_o0_1 (show cc.toInt = r5_1.toInt % 256 by have q0 := hp10_5; have q1 := hk13_1; omega) (show kk.toInt = r5_1.toInt / 4294967296 by have q0 := (rl_any r5_1).1; have q1 := (rl_any r5_1).2; have q2 := (rg_any kk).1; have q3 := (rg_any kk).2; have q4 := (rl_any (g_p0r v0.toNatClampNeg)).1; have q5 := (rl_any (g_p0r v0.toNatClampNeg)).2; have q6 := h_x_p0_1.1; have q7 := h_x_p0_1.2; have q8 := h_v0.1; have q9 := h_v0.2; have q10 := (rg_any cc).1; have q11 := (rg_any cc).2; have q12 := (rg_any oo).1; have q13 := (rg_any oo).2; have q14 := hp10_4.1; have q15 := hp10_4.2; have q16 := r20_3.1; have q17 := r20_3.2; have q18 := (show rg (0 : Int32) 0 0 from rg_l (by decide)).1; have q19 := (show rg (0 : Int32) 0 0 from rg_l (by decide)).2; have q20 := hq0; have q21 := hq1; have q22 := hq2; have q23 := hq3; have q24 := hq4; have q25 := hp5_4; have q26 := hk8_1; have q27 := hk8_2; have q28 := hk8_3; have q29 := hp10_5; have q30 := hk13_1; have q31 := hp17_5; have q32 := hp17_6; have q33 := t20_2; have q34 := (show (0 : Int32).toInt = 0 from by decide); omega) (show r5_1.toInt % 256 ≤ 207 by have q0 := (rl_any r5_1).1; have q1 := (rl_any r5_1).2; have q2 := (rl_any (g_p0r v0.toNatClampNeg)).1; have q3 := (rl_any (g_p0r v0.toNatClampNeg)).2; have q4 := h_x_p0_1.1; have q5 := h_x_p0_1.2; have q6 := h_v0.1; have q7 := h_v0.2; have q8 := (rg_any cc).1; have q9 := (rg_any cc).2; have q10 := (rg_any kk).1; have q11 := (rg_any kk).2; have q12 := (rg_any oo).1; have q13 := (rg_any oo).2; have q14 := hp10_4.1; have q15 := hp10_4.2; have q16 := r20_3.1; have q17 := r20_3.2; have q18 := (show rg (0 : Int32) 0 0 from rg_l (by decide)).1; have q19 := (show rg (0 : Int32) 0 0 from rg_l (by decide)).2; have q20 := hq0; have q21 := hq1; have q22 := hq2; have q23 := hq3; have q24 := hq4; have q25 := hp5_4; have q26 := hk8_1; have q27 := hk8_2; have q28 := hk8_3; have q29 := hp10_5; have q30 := hk13_1; have q31 := hp17_5; have q32 := hp17_6; have q33 := t20_2; have q34 := (show (0 : Int32).toInt = 0 from by decide); omega) (hg0.1 (show (cc.toInt % 8 = 7 ∨ cc.toInt % 8 = 4) by have q0 := r20_3.1; have q1 := r20_3.2; have q2 := hk13_1; have q3 := hp17_5; omega)) _) (cb_of (n := 1) hn mw_1304 mw_10 mw_1301 mhX10_turnOp ⟨(Nat.le_of_ble_eq_true rfl), (Nat.le_of_ble_eq_true rfl)⟩) hx hb hml hown hn hK hSK hZ hS mw_1303 mw_s147 (ci := 10) (q0 := 0) rfl rfl rfl rfl hl.1 (Nat.le_of_ble_eq_true rfl) dX10_turnOne_25 ⟨(Nat.le_of_ble_eq_true rfl), (Nat.le_of_ble_eq_true rfl)⟩) hP hD hS hA rfl rfl (by decide) (by decide) (by decide) (Nat.le_of_ble_eq_true rfl) (Nat.le_of_ble_eq_true rfl) (fun u25_2 H locs hp25_3 hP hD hS => ?_)
    obtain ⟨y_tl_425_4, k_o0r25_5⟩ := u25_2
    obtain ⟨hp25_6, hp25_7, hp25_8⟩ := hp25_3
    have hp25_6 : rg y_tl_425_4 1 1000001 := hp25_6
    have hp25_7 : x_tl_4.toInt + 1 ≤ y_tl_425_4.toInt ∧ y_tl_425_4.toInt ≤ x_tl_4.toInt + 9 := hp25_7
    have hp25_8 : y_tl_425_4.toInt = x_tl_4.toInt + ((d : Nat) : Int) := hp25_8
    have hP : va_P D vwCl [(tls, .inl (ct 1, 4001, .inl g_tls)), (p0, .inr (7, [.ref p0r, .int x_p0_1])), (p0r, .inl (ct 2, 4000, .inr (.inl g_p0r))), (tl, .inr (10, [.ref tls, .ref o0, .ref p0, .int x_tl_3, .int y_tl_425_4])), (o0, .inr (5, [.ref o0r, .int x_o0_1])), (o0r, .inl (ct 1, 60000, .inl k_o0r25_5))] _ := hP
    have hD : va_D A [(tls, .inl (ct 1, 4001, .inl g_tls)), (p0, .inr (7, [.ref p0r, .int x_p0_1])), (p0r, .inl (ct 2, 4000, .inr (.inl g_p0r))), (tl, .inr (10, [.ref tls, .ref o0, .ref p0, .int x_tl_3, .int y_tl_425_4])), (o0, .inr (5, [.ref o0r, .int x_o0_1])), (o0r, .inl (ct 1, 60000, .inl k_o0r25_5))] := hD
    refine lv_goto (tgt := 86) hx hb dX10_turnOne_28 (by decide) ?_
    exact endq_v hQ hx hb hr hlocks dX10_turnOne_86 (y_tl_425_4, k_o0r25_5) ⟨hp25_6, (show y_tl_425_4.toInt = x_tl_4.toInt + ((d : Nat) : Int) by have q0 := hp25_8; omega)⟩ hP hD hS [3, 1, 2, 4, 5, 0] rfl (by decide) rfl (Nat.le_of_ble_eq_true rfl) (Nat.le_of_ble_eq_true rfl)
