/-! what an INSTRUCTION becomes, counted -/
def TWop (c k : Int) (d : Nat) : Prop := ((c % 8 = 7 ∨ c % 8 = 5) ∧ (c / 8) % 2 = 1 ∧ c / 16 = 11 → ((d : Nat) : Int) = 1) ∧ ((c % 8 = 7 ∨ c % 8 = 5) ∧ (c / 8) % 2 = 1 ∧ c / 16 = 8 → ((d : Nat) : Int) = 1) ∧ ((c % 8 = 7 ∨ c % 8 = 5) ∧ (c / 8) % 2 = 1 ∧ c / 16 = 3 → ((d : Nat) : Int) = 4) ∧ ((c % 8 = 7 ∨ c % 8 = 5) ∧ (c / 8) % 2 = 1 ∧ c / 16 ≠ 11 ∧ c / 16 ≠ 8 ∧ c / 16 ≠ 3 → ((d : Nat) : Int) = 1) ∧ ((c % 8 = 7 ∨ c % 8 = 5) ∧ (c / 8) % 2 = 0 ∧ (-2048 ≤ k ∧ k ≤ 2047) ∧ c / 16 = 11 → ((d : Nat) : Int) = 1) ∧ ((c % 8 = 7 ∨ c % 8 = 5) ∧ (c / 8) % 2 = 0 ∧ (-2048 ≤ k ∧ k ≤ 2047) ∧ c / 16 = 8 → ((d : Nat) : Int) = 1) ∧ ((c % 8 = 7 ∨ c % 8 = 5) ∧ (c / 8) % 2 = 0 ∧ (-2048 ≤ k ∧ k ≤ 2047) ∧ c / 16 = 3 → ((d : Nat) : Int) = 5) ∧ ((c % 8 = 7 ∨ c % 8 = 5) ∧ (c / 8) % 2 = 0 ∧ (-2048 ≤ k ∧ k ≤ 2047) ∧ c / 16 ≠ 11 ∧ c / 16 ≠ 8 ∧ c / 16 ≠ 3 → ((d : Nat) : Int) = 2) ∧ ((c % 8 = 7 ∨ c % 8 = 5) ∧ (c / 8) % 2 = 0 ∧ (k < -2048 ∨ 2047 < k) ∧ c / 16 = 11 → ((d : Nat) : Int) = 2) ∧ ((c % 8 = 7 ∨ c % 8 = 5) ∧ (c / 8) % 2 = 0 ∧ (k < -2048 ∨ 2047 < k) ∧ c / 16 = 8 → ((d : Nat) : Int) = 1) ∧ ((c % 8 = 7 ∨ c % 8 = 5) ∧ (c / 8) % 2 = 0 ∧ (k < -2048 ∨ 2047 < k) ∧ c / 16 = 3 → ((d : Nat) : Int) = 6) ∧ ((c % 8 = 7 ∨ c % 8 = 5) ∧ (c / 8) % 2 = 0 ∧ (k < -2048 ∨ 2047 < k) ∧ c / 16 ≠ 11 ∧ c / 16 ≠ 8 ∧ c / 16 ≠ 3 → ((d : Nat) : Int) = 3) ∧ (¬ (c % 8 = 7 ∨ c % 8 = 5) ∧ (c / 8) % 2 = 1 ∧ c / 16 = 11 → ((d : Nat) : Int) = 3) ∧ (¬ (c % 8 = 7 ∨ c % 8 = 5) ∧ (c / 8) % 2 = 1 ∧ c / 16 = 8 → ((d : Nat) : Int) = 3) ∧ (¬ (c % 8 = 7 ∨ c % 8 = 5) ∧ (c / 8) % 2 = 1 ∧ c / 16 = 3 → ((d : Nat) : Int) = 7) ∧ (¬ (c % 8 = 7 ∨ c % 8 = 5) ∧ (c / 8) % 2 = 1 ∧ c / 16 ≠ 11 ∧ c / 16 ≠ 8 ∧ c / 16 ≠ 3 → ((d : Nat) : Int) = 3) ∧ (¬ (c % 8 = 7 ∨ c % 8 = 5) ∧ (c / 8) % 2 = 0 ∧ (-2048 ≤ k ∧ k ≤ 2047) ∧ c / 16 = 11 → ((d : Nat) : Int) = 3) ∧ (¬ (c % 8 = 7 ∨ c % 8 = 5) ∧ (c / 8) % 2 = 0 ∧ (-2048 ≤ k ∧ k ≤ 2047) ∧ c / 16 = 8 → ((d : Nat) : Int) = 3) ∧ (¬ (c % 8 = 7 ∨ c % 8 = 5) ∧ (c / 8) % 2 = 0 ∧ (-2048 ≤ k ∧ k ≤ 2047) ∧ c / 16 = 3 → ((d : Nat) : Int) = 8) ∧ (¬ (c % 8 = 7 ∨ c % 8 = 5) ∧ (c / 8) % 2 = 0 ∧ (-2048 ≤ k ∧ k ≤ 2047) ∧ c / 16 ≠ 11 ∧ c / 16 ≠ 8 ∧ c / 16 ≠ 3 → ((d : Nat) : Int) = 4) ∧ (¬ (c % 8 = 7 ∨ c % 8 = 5) ∧ (c / 8) % 2 = 0 ∧ (k < -2048 ∨ 2047 < k) ∧ c / 16 = 11 → ((d : Nat) : Int) = 4) ∧ (¬ (c % 8 = 7 ∨ c % 8 = 5) ∧ (c / 8) % 2 = 0 ∧ (k < -2048 ∨ 2047 < k) ∧ c / 16 = 8 → ((d : Nat) : Int) = 3) ∧ (¬ (c % 8 = 7 ∨ c % 8 = 5) ∧ (c / 8) % 2 = 0 ∧ (k < -2048 ∨ 2047 < k) ∧ c / 16 = 3 → ((d : Nat) : Int) = 9) ∧ (¬ (c % 8 = 7 ∨ c % 8 = 5) ∧ (c / 8) % 2 = 0 ∧ (k < -2048 ∨ 2047 < k) ∧ c / 16 ≠ 11 ∧ c / 16 ≠ 8 ∧ c / 16 ≠ 3 → ((d : Nat) : Int) = 5)
def TWjump (c k : Int) (d : Nat) : Prop := (c = 5 → ((d : Nat) : Int) = 1) ∧ (c ≠ 5 ∧ (c % 8 = 7 ∨ c % 8 = 5) ∧ (c / 8) % 2 = 1 ∧ c / 16 = 4 → ((d : Nat) : Int) = 3) ∧ (c ≠ 5 ∧ (c % 8 = 7 ∨ c % 8 = 5) ∧ (c / 8) % 2 = 1 ∧ c / 16 ≠ 4 → ((d : Nat) : Int) = 2) ∧ (c ≠ 5 ∧ (c % 8 = 7 ∨ c % 8 = 5) ∧ (c / 8) % 2 = 0 ∧ (-2048 ≤ k ∧ k ≤ 2047) ∧ c / 16 = 4 → ((d : Nat) : Int) = 4) ∧ (c ≠ 5 ∧ (c % 8 = 7 ∨ c % 8 = 5) ∧ (c / 8) % 2 = 0 ∧ (-2048 ≤ k ∧ k ≤ 2047) ∧ c / 16 ≠ 4 → ((d : Nat) : Int) = 3) ∧ (c ≠ 5 ∧ (c % 8 = 7 ∨ c % 8 = 5) ∧ (c / 8) % 2 = 0 ∧ (k < -2048 ∨ 2047 < k) ∧ c / 16 = 4 → ((d : Nat) : Int) = 5) ∧ (c ≠ 5 ∧ (c % 8 = 7 ∨ c % 8 = 5) ∧ (c / 8) % 2 = 0 ∧ (k < -2048 ∨ 2047 < k) ∧ c / 16 ≠ 4 → ((d : Nat) : Int) = 4) ∧ (c ≠ 5 ∧ ¬ (c % 8 = 7 ∨ c % 8 = 5) ∧ (c / 8) % 2 = 1 ∧ c / 16 = 4 → ((d : Nat) : Int) = 5) ∧ (c ≠ 5 ∧ ¬ (c % 8 = 7 ∨ c % 8 = 5) ∧ (c / 8) % 2 = 1 ∧ c / 16 ≠ 4 → ((d : Nat) : Int) = 4) ∧ (c ≠ 5 ∧ ¬ (c % 8 = 7 ∨ c % 8 = 5) ∧ (c / 8) % 2 = 0 ∧ (-2048 ≤ k ∧ k ≤ 2047) ∧ c / 16 = 4 → ((d : Nat) : Int) = 6) ∧ (c ≠ 5 ∧ ¬ (c % 8 = 7 ∨ c % 8 = 5) ∧ (c / 8) % 2 = 0 ∧ (-2048 ≤ k ∧ k ≤ 2047) ∧ c / 16 ≠ 4 → ((d : Nat) : Int) = 5) ∧ (c ≠ 5 ∧ ¬ (c % 8 = 7 ∨ c % 8 = 5) ∧ (c / 8) % 2 = 0 ∧ (k < -2048 ∨ 2047 < k) ∧ c / 16 = 4 → ((d : Nat) : Int) = 7) ∧ (c ≠ 5 ∧ ¬ (c % 8 = 7 ∨ c % 8 = 5) ∧ (c / 8) % 2 = 0 ∧ (k < -2048 ∨ 2047 < k) ∧ c / 16 ≠ 4 → ((d : Nat) : Int) = 6)
def TWread (c k : Int) (d : Nat) : Prop := ((-2048 ≤ k ∧ k ≤ 2047) ∧ 64 ≤ c ∧ (c / 8) % 4 = 0 → ((d : Nat) : Int) = 19) ∧ ((-2048 ≤ k ∧ k ≤ 2047) ∧ 64 ≤ c ∧ (c / 8) % 4 = 1 → ((d : Nat) : Int) = 13) ∧ ((-2048 ≤ k ∧ k ≤ 2047) ∧ 64 ≤ c ∧ (c / 8) % 4 = 2 → ((d : Nat) : Int) = 10) ∧ ((-2048 ≤ k ∧ k ≤ 2047) ∧ 64 ≤ c ∧ (c / 8) % 4 = 3 → ((d : Nat) : Int) = 31) ∧ ((-2048 ≤ k ∧ k ≤ 2047) ∧ c < 64 ∧ (c / 8) % 4 = 0 → ((d : Nat) : Int) = 18) ∧ ((-2048 ≤ k ∧ k ≤ 2047) ∧ c < 64 ∧ (c / 8) % 4 = 1 → ((d : Nat) : Int) = 12) ∧ ((-2048 ≤ k ∧ k ≤ 2047) ∧ c < 64 ∧ (c / 8) % 4 = 2 → ((d : Nat) : Int) = 9) ∧ ((-2048 ≤ k ∧ k ≤ 2047) ∧ c < 64 ∧ (c / 8) % 4 = 3 → ((d : Nat) : Int) = 30) ∧ ((k < -2048 ∨ 2047 < k) ∧ 64 ≤ c ∧ (c / 8) % 4 = 0 → ((d : Nat) : Int) = 20) ∧ ((k < -2048 ∨ 2047 < k) ∧ 64 ≤ c ∧ (c / 8) % 4 = 1 → ((d : Nat) : Int) = 14) ∧ ((k < -2048 ∨ 2047 < k) ∧ 64 ≤ c ∧ (c / 8) % 4 = 2 → ((d : Nat) : Int) = 11) ∧ ((k < -2048 ∨ 2047 < k) ∧ 64 ≤ c ∧ (c / 8) % 4 = 3 → ((d : Nat) : Int) = 32) ∧ ((k < -2048 ∨ 2047 < k) ∧ c < 64 ∧ (c / 8) % 4 = 0 → ((d : Nat) : Int) = 19) ∧ ((k < -2048 ∨ 2047 < k) ∧ c < 64 ∧ (c / 8) % 4 = 1 → ((d : Nat) : Int) = 13) ∧ ((k < -2048 ∨ 2047 < k) ∧ c < 64 ∧ (c / 8) % 4 = 2 → ((d : Nat) : Int) = 10) ∧ ((k < -2048 ∨ 2047 < k) ∧ c < 64 ∧ (c / 8) % 4 = 3 → ((d : Nat) : Int) = 31)
def TWmem (c k o : Int) (d : Nat) : Prop := ((-2048 ≤ o ∧ o ≤ 2047) ∧ ((c = 97 ∨ c = 105 ∨ c = 113 ∨ c = 121) ∨ c % 2 = 1) → ((d : Nat) : Int) = 3) ∧ ((-2048 ≤ o ∧ o ≤ 2047) ∧ (-2048 ≤ k ∧ k ≤ 2047) ∧ ¬ (c = 97 ∨ c = 105 ∨ c = 113 ∨ c = 121) ∧ c % 2 = 0 → ((d : Nat) : Int) = 4) ∧ ((-2048 ≤ o ∧ o ≤ 2047) ∧ (k < -2048 ∨ 2047 < k) ∧ ¬ (c = 97 ∨ c = 105 ∨ c = 113 ∨ c = 121) ∧ c % 2 = 0 → ((d : Nat) : Int) = 5) ∧ ((o < -2048 ∨ 2047 < o) ∧ ((c = 97 ∨ c = 105 ∨ c = 113 ∨ c = 121) ∨ c % 2 = 1) → ((d : Nat) : Int) = 4) ∧ ((o < -2048 ∨ 2047 < o) ∧ (-2048 ≤ k ∧ k ≤ 2047) ∧ ¬ (c = 97 ∨ c = 105 ∨ c = 113 ∨ c = 121) ∧ c % 2 = 0 → ((d : Nat) : Int) = 5) ∧ ((o < -2048 ∨ 2047 < o) ∧ (k < -2048 ∨ 2047 < k) ∧ ¬ (c = 97 ∨ c = 105 ∨ c = 113 ∨ c = 121) ∧ c % 2 = 0 → ((d : Nat) : Int) = 6)
def TWo (c k o : Int) (d : Nat) : Prop := ((c % 8 = 7 ∨ c % 8 = 4) → TWop c k d) ∧ (¬ (c % 8 = 7 ∨ c % 8 = 4) ∧ c = 149 → ((d : Nat) : Int) = 1) ∧ (¬ (c % 8 = 7 ∨ c % 8 = 4) ∧ c ≠ 149 ∧ (c % 8 = 5 ∨ c % 8 = 6) → TWjump c k d) ∧ (¬ (c % 8 = 7 ∨ c % 8 = 4) ∧ c ≠ 149 ∧ ¬ (c % 8 = 5 ∨ c % 8 = 6) ∧ (c = 32 ∨ c = 40 ∨ c = 48 ∨ c = 64 ∨ c = 72 ∨ c = 80) → TWread c k d) ∧ (¬ (c % 8 = 7 ∨ c % 8 = 4) ∧ c ≠ 149 ∧ ¬ (c % 8 = 5 ∨ c % 8 = 6) ∧ ¬ (c = 32 ∨ c = 40 ∨ c = 48 ∨ c = 64 ∨ c = 72 ∨ c = 80) → TWmem c k o d)
set_option maxHeartbeats 2000000 in
theorem c_X7_isWide_w (l : Launch) (D : va_G) (ct : Nat → ClassId) (v0 : Int32) (h_v0 : rg v0 0 255) : KI (S := Unit) l yX7_isWide cX7_isWide 1 (some .boolean) 1 20 D ct [.int v0] [] 0 0 (fun (r : Int32) (_ : Unit) => rg r 0 1 ∧ (r.toInt = 1 → v0.toInt % 8 = 7 ∨ v0.toInt % 8 = 5) ∧ (r.toInt = 0 → ¬ (v0.toInt % 8 = 7 ∨ v0.toInt % 8 = 5))) (fun (_ : Unit) => []) := by
  refine KIq_of (by decide) (Nat.le_of_ble_eq_true rfl) (fun p e s m below meth c A Q C0 hA H locs hS hP hD hQ ls hl => ?_)
  obtain ⟨hx, hb, hr, hown, hin, hml, hlocks, hn, hK, hZ, hSK⟩ := C0
  have hl : lv_has ls 1 [(0, .int v0)] := hl
  refine lv_iload_n hx hb dX7_isWide_0 rfl (lv_at hl 0 rfl) ?_
  refine lv_bipush (v := 7) hx hb dX7_isWide_1 (by decide) ?_
  refine lv_iand hx hb dX7_isWide_3 ?_
  refine lv_topi (fun z3_1 ez3_1 => ?_)
  have r3_2 : rg z3_1 0 7 := rg_andr ez3_1 (show rg (7 : Int32) 7 7 from rg_l (by decide)) (by decide)
  refine lv_bipush (v := 7) hx hb dX7_isWide_4 (by decide) ?_
  refine lv_icmp_eq (tgt := 17) hx hb dX7_isWide_6 (by decide) (fun c6_1 => ?_) (fun c6_1 => ?_)
  · have t6_2 := FF.mk (i_eq c6_1)
    have r6_3 : rg z3_1 7 7 := rg_eqA t6_2 r3_2 (show rg (7 : Int32) 7 7 from rg_l (by decide)) (by decide)
    refine lv_iconst (v := 1) hx hb dX7_isWide_17 (by decide) ?_
    refine lv_goto (tgt := 22) hx hb dX7_isWide_18 (by decide) ?_
    exact endq_i hQ hx hb hr hlocks dX7_isWide_22 (by decide) () ⟨(rg_w (show rg (1 : Int32) 1 1 from rg_l (by decide)) (by decide)), (show (1 : Int32).toInt = 1 → v0.toInt % 8 = 7 ∨ v0.toInt % 8 = 5 by have q0 := r6_3.1; have q1 := (eq_and (c := 8) (k := 3) ez3_1 (by decide) (by decide)); have q2 := (show (1 : Int32).toInt = 1 from by decide); omega), (show (1 : Int32).toInt = 0 → ¬ (v0.toInt % 8 = 7 ∨ v0.toInt % 8 = 5) by have q0 := (show (1 : Int32).toInt = 1 from by decide); omega)⟩ hP hD hS [] rfl (by decide) rfl (Nat.le_of_ble_eq_true rfl) (Nat.le_of_ble_eq_true rfl)
  · have t6_2 := FF.mk (i_ne c6_1)
    have r6_3 : rg z3_1 0 6 := rg_neAh t6_2 r3_2 (show rg (7 : Int32) 7 7 from rg_l (by decide)) (by decide)
    refine lv_iload_n hx hb dX7_isWide_9 rfl (lv_at hl 0 rfl) ?_
    refine lv_bipush (v := 7) hx hb dX7_isWide_10 (by decide) ?_
    refine lv_iand hx hb dX7_isWide_12 ?_
    refine lv_topi (fun z12_1 ez12_1 => ?_)
    have r12_2 : rg z12_1 0 7 := rg_andr ez12_1 (show rg (7 : Int32) 7 7 from rg_l (by decide)) (by decide)
    refine lv_iconst (v := 5) hx hb dX7_isWide_13 (by decide) ?_
    refine lv_icmp_ne (tgt := 21) hx hb dX7_isWide_14 (by decide) (fun c14_1 => ?_) (fun c14_1 => ?_)
    · have t14_2 := FF.mk (i_ne c14_1)
      refine lv_iconst (v := 0) hx hb dX7_isWide_21 (by decide) ?_
      exact endq_i hQ hx hb hr hlocks dX7_isWide_22 (by decide) () ⟨(rg_w (show rg (0 : Int32) 0 0 from rg_l (by decide)) (by decide)), (show (0 : Int32).toInt = 1 → v0.toInt % 8 = 7 ∨ v0.toInt % 8 = 5 by have q0 := (show (0 : Int32).toInt = 0 from by decide); omega), (show (0 : Int32).toInt = 0 → ¬ (v0.toInt % 8 = 7 ∨ v0.toInt % 8 = 5) by have q0 := r6_3.2; have q1 := (eq_and (c := 8) (k := 3) ez3_1 (by decide) (by decide)); have q2 := (eq_and (c := 8) (k := 3) ez12_1 (by decide) (by decide)); have q3 := FF.out t14_2; have q4 := (show (0 : Int32).toInt = 0 from by decide); have q5 := (show (5 : Int32).toInt = 5 from by decide); omega)⟩ hP hD hS [] rfl (by decide) rfl (Nat.le_of_ble_eq_true rfl) (Nat.le_of_ble_eq_true rfl)
    · have t14_2 := FF.mk (i_eq c14_1)
      have r14_3 : rg z12_1 5 5 := rg_eqA t14_2 r12_2 (show rg (5 : Int32) 5 5 from rg_l (by decide)) (by decide)
      refine lv_iconst (v := 1) hx hb dX7_isWide_17 (by decide) ?_
      refine lv_goto (tgt := 22) hx hb dX7_isWide_18 (by decide) ?_
      exact endq_i hQ hx hb hr hlocks dX7_isWide_22 (by decide) () ⟨(rg_w (show rg (1 : Int32) 1 1 from rg_l (by decide)) (by decide)), (show (1 : Int32).toInt = 1 → v0.toInt % 8 = 7 ∨ v0.toInt % 8 = 5 by have q0 := r14_3.1; have q1 := r14_3.2; have q2 := (eq_and (c := 8) (k := 3) ez12_1 (by decide) (by decide)); have q3 := (show (1 : Int32).toInt = 1 from by decide); omega), (show (1 : Int32).toInt = 0 → ¬ (v0.toInt % 8 = 7 ∨ v0.toInt % 8 = 5) by have q0 := (show (1 : Int32).toInt = 1 from by decide); omega)⟩ hP hD hS [] rfl (by decide) rfl (Nat.le_of_ble_eq_true rfl) (Nat.le_of_ble_eq_true rfl)
set_option maxHeartbeats 2000000 in
theorem c_X7_isJump_w (l : Launch) (D : va_G) (ct : Nat → ClassId) (v0 : Int32) (h_v0 : rg v0 0 255) : KI (S := Unit) l yX7_isJump cX7_isJump 1 (some .boolean) 1 20 D ct [.int v0] [] 0 0 (fun (r : Int32) (_ : Unit) => rg r 0 1 ∧ (r.toInt = 1 → v0.toInt % 8 = 5 ∨ v0.toInt % 8 = 6) ∧ (r.toInt = 0 → ¬ (v0.toInt % 8 = 5 ∨ v0.toInt % 8 = 6))) (fun (_ : Unit) => []) := by
  refine KIq_of (by decide) (Nat.le_of_ble_eq_true rfl) (fun p e s m below meth c A Q C0 hA H locs hS hP hD hQ ls hl => ?_)
  obtain ⟨hx, hb, hr, hown, hin, hml, hlocks, hn, hK, hZ, hSK⟩ := C0
  have hl : lv_has ls 1 [(0, .int v0)] := hl
  refine lv_iload_n hx hb dX7_isJump_0 rfl (lv_at hl 0 rfl) ?_
  refine lv_bipush (v := 7) hx hb dX7_isJump_1 (by decide) ?_
  refine lv_iand hx hb dX7_isJump_3 ?_
  refine lv_topi (fun z3_1 ez3_1 => ?_)
  have r3_2 : rg z3_1 0 7 := rg_andr ez3_1 (show rg (7 : Int32) 7 7 from rg_l (by decide)) (by decide)
  refine lv_iconst (v := 5) hx hb dX7_isJump_4 (by decide) ?_
  refine lv_icmp_eq (tgt := 17) hx hb dX7_isJump_5 (by decide) (fun c5_1 => ?_) (fun c5_1 => ?_)
  · have t5_2 := FF.mk (i_eq c5_1)
    have r5_3 : rg z3_1 5 5 := rg_eqA t5_2 r3_2 (show rg (5 : Int32) 5 5 from rg_l (by decide)) (by decide)
    refine lv_iconst (v := 1) hx hb dX7_isJump_17 (by decide) ?_
    refine lv_goto (tgt := 22) hx hb dX7_isJump_18 (by decide) ?_
    exact endq_i hQ hx hb hr hlocks dX7_isJump_22 (by decide) () ⟨(rg_w (show rg (1 : Int32) 1 1 from rg_l (by decide)) (by decide)), (show (1 : Int32).toInt = 1 → v0.toInt % 8 = 5 ∨ v0.toInt % 8 = 6 by have q0 := r5_3.1; have q1 := r5_3.2; have q2 := (eq_and (c := 8) (k := 3) ez3_1 (by decide) (by decide)); have q3 := (show (1 : Int32).toInt = 1 from by decide); omega), (show (1 : Int32).toInt = 0 → ¬ (v0.toInt % 8 = 5 ∨ v0.toInt % 8 = 6) by have q0 := (show (1 : Int32).toInt = 1 from by decide); omega)⟩ hP hD hS [] rfl (by decide) rfl (Nat.le_of_ble_eq_true rfl) (Nat.le_of_ble_eq_true rfl)
  · have t5_2 := FF.mk (i_ne c5_1)
    refine lv_iload_n hx hb dX7_isJump_8 rfl (lv_at hl 0 rfl) ?_
    refine lv_bipush (v := 7) hx hb dX7_isJump_9 (by decide) ?_
    refine lv_iand hx hb dX7_isJump_11 ?_
    refine lv_topi (fun z11_1 ez11_1 => ?_)
    have r11_2 : rg z11_1 0 7 := rg_andr ez11_1 (show rg (7 : Int32) 7 7 from rg_l (by decide)) (by decide)
    refine lv_bipush (v := 6) hx hb dX7_isJump_12 (by decide) ?_
    refine lv_icmp_ne (tgt := 21) hx hb dX7_isJump_14 (by decide) (fun c14_1 => ?_) (fun c14_1 => ?_)
    · have t14_2 := FF.mk (i_ne c14_1)
      refine lv_iconst (v := 0) hx hb dX7_isJump_21 (by decide) ?_
      exact endq_i hQ hx hb hr hlocks dX7_isJump_22 (by decide) () ⟨(rg_w (show rg (0 : Int32) 0 0 from rg_l (by decide)) (by decide)), (show (0 : Int32).toInt = 1 → v0.toInt % 8 = 5 ∨ v0.toInt % 8 = 6 by have q0 := (show (0 : Int32).toInt = 0 from by decide); omega), (show (0 : Int32).toInt = 0 → ¬ (v0.toInt % 8 = 5 ∨ v0.toInt % 8 = 6) by have q0 := (eq_and (c := 8) (k := 3) ez3_1 (by decide) (by decide)); have q1 := (eq_and (c := 8) (k := 3) ez11_1 (by decide) (by decide)); have q2 := FF.out t5_2; have q3 := FF.out t14_2; have q4 := (show (0 : Int32).toInt = 0 from by decide); have q5 := (show (5 : Int32).toInt = 5 from by decide); have q6 := (show (6 : Int32).toInt = 6 from by decide); omega)⟩ hP hD hS [] rfl (by decide) rfl (Nat.le_of_ble_eq_true rfl) (Nat.le_of_ble_eq_true rfl)
    · have t14_2 := FF.mk (i_eq c14_1)
      have r14_3 : rg z11_1 6 6 := rg_eqA t14_2 r11_2 (show rg (6 : Int32) 6 6 from rg_l (by decide)) (by decide)
      refine lv_iconst (v := 1) hx hb dX7_isJump_17 (by decide) ?_
      refine lv_goto (tgt := 22) hx hb dX7_isJump_18 (by decide) ?_
      exact endq_i hQ hx hb hr hlocks dX7_isJump_22 (by decide) () ⟨(rg_w (show rg (1 : Int32) 1 1 from rg_l (by decide)) (by decide)), (show (1 : Int32).toInt = 1 → v0.toInt % 8 = 5 ∨ v0.toInt % 8 = 6 by have q0 := r14_3.1; have q1 := r14_3.2; have q2 := (eq_and (c := 8) (k := 3) ez11_1 (by decide) (by decide)); have q3 := (show (1 : Int32).toInt = 1 from by decide); omega), (show (1 : Int32).toInt = 0 → ¬ (v0.toInt % 8 = 5 ∨ v0.toInt % 8 = 6) by have q0 := (show (1 : Int32).toInt = 1 from by decide); omega)⟩ hP hD hS [] rfl (by decide) rfl (Nat.le_of_ble_eq_true rfl) (Nat.le_of_ble_eq_true rfl)
set_option maxHeartbeats 2000000 in
theorem c_X7_hasS_w (l : Launch) (D : va_G) (ct : Nat → ClassId) (v0 : Int32) (h_v0 : rg v0 0 255) : KI (S := Unit) l yX7_hasS cX7_hasS 1 (some .boolean) 1 20 D ct [.int v0] [] 0 0 (fun (r : Int32) (_ : Unit) => rg r 0 1 ∧ (r.toInt = 1 → (v0.toInt / 8) % 2 = 1) ∧ (r.toInt = 0 → (v0.toInt / 8) % 2 = 0)) (fun (_ : Unit) => []) := by
  refine KIq_of (by decide) (Nat.le_of_ble_eq_true rfl) (fun p e s m below meth c A Q C0 hA H locs hS hP hD hQ ls hl => ?_)
  obtain ⟨hx, hb, hr, hown, hin, hml, hlocks, hn, hK, hZ, hSK⟩ := C0
  have hl : lv_has ls 1 [(0, .int v0)] := hl
  refine lv_iload_n hx hb dX7_hasS_0 rfl (lv_at hl 0 rfl) ?_
  refine lv_bipush (v := 8) hx hb dX7_hasS_1 (by decide) ?_
  refine lv_iand hx hb dX7_hasS_3 ?_
  refine lv_topi (fun z3_1 ez3_1 => ?_)
  have r3_2 : rg z3_1 0 8 := rg_andr ez3_1 (show rg (8 : Int32) 8 8 from rg_l (by decide)) (by decide)
  refine lv_if_eq (tgt := 11) hx hb dX7_hasS_4 (by decide) (fun c4_1 => ?_) (fun c4_1 => ?_)
  · have t4_2 := FF.mk (i_eq c4_1)
    have r4_3 : rg z3_1 0 0 := rg_eqA t4_2 r3_2 (show rg (0 : Int32) 0 0 from rg_l (by decide)) (by decide)
    refine lv_iconst (v := 0) hx hb dX7_hasS_11 (by decide) ?_
    exact endq_i hQ hx hb hr hlocks dX7_hasS_12 (by decide) () ⟨(rg_w (show rg (0 : Int32) 0 0 from rg_l (by decide)) (by decide)), (show (0 : Int32).toInt = 1 → (v0.toInt / 8) % 2 = 1 by have q0 := (show (0 : Int32).toInt = 0 from by decide); omega), (show (0 : Int32).toInt = 0 → (v0.toInt / 8) % 2 = 0 by have q0 := r4_3.2; have q1 := (eq_andbit (c := 8) (k := 3) ez3_1 (by decide) h_v0 (by decide)); have q2 := (show (0 : Int32).toInt = 0 from by decide); omega)⟩ hP hD hS [] rfl (by decide) rfl (Nat.le_of_ble_eq_true rfl) (Nat.le_of_ble_eq_true rfl)
  · have t4_2 := FF.mk (i_ne c4_1)
    have r4_3 : rg z3_1 1 8 := rg_neAl t4_2 r3_2 (show rg (0 : Int32) 0 0 from rg_l (by decide)) (by decide)
    refine lv_iconst (v := 1) hx hb dX7_hasS_7 (by decide) ?_
    refine lv_goto (tgt := 12) hx hb dX7_hasS_8 (by decide) ?_
    exact endq_i hQ hx hb hr hlocks dX7_hasS_12 (by decide) () ⟨(rg_w (show rg (1 : Int32) 1 1 from rg_l (by decide)) (by decide)), (show (1 : Int32).toInt = 1 → (v0.toInt / 8) % 2 = 1 by have q0 := r4_3.1; have q1 := (eq_andbit (c := 8) (k := 3) ez3_1 (by decide) h_v0 (by decide)); have q2 := (show (1 : Int32).toInt = 1 from by decide); omega), (show (1 : Int32).toInt = 0 → (v0.toInt / 8) % 2 = 0 by have q0 := (show (1 : Int32).toInt = 1 from by decide); omega)⟩ hP hD hS [] rfl (by decide) rfl (Nat.le_of_ble_eq_true rfl) (Nat.le_of_ble_eq_true rfl)
set_option maxHeartbeats 2000000 in
theorem c_X7_isLoad_w (l : Launch) (D : va_G) (ct : Nat → ClassId) (v0 : Int32) (h_v0 : rg v0 0 255) : KI (S := Unit) l yX7_isLoad cX7_isLoad 1 (some .boolean) 1 20 D ct [.int v0] [] 0 0 (fun (r : Int32) (_ : Unit) => rg r 0 1 ∧ (r.toInt = 1 → (v0.toInt = 97 ∨ v0.toInt = 105 ∨ v0.toInt = 113 ∨ v0.toInt = 121)) ∧ (r.toInt = 0 → ¬ (v0.toInt = 97 ∨ v0.toInt = 105 ∨ v0.toInt = 113 ∨ v0.toInt = 121))) (fun (_ : Unit) => []) := by
  refine KIq_of (by decide) (Nat.le_of_ble_eq_true rfl) (fun p e s m below meth c A Q C0 hA H locs hS hP hD hQ ls hl => ?_)
  obtain ⟨hx, hb, hr, hown, hin, hml, hlocks, hn, hK, hZ, hSK⟩ := C0
  have hl : lv_has ls 1 [(0, .int v0)] := hl
  refine lv_iload_n hx hb dX7_isLoad_0 rfl (lv_at hl 0 rfl) ?_
  refine lv_bipush (v := 97) hx hb dX7_isLoad_1 (by decide) ?_
  refine lv_icmp_eq (tgt := 24) hx hb dX7_isLoad_3 (by decide) (fun c3_1 => ?_) (fun c3_1 => ?_)
  · have t3_2 := FF.mk (i_eq c3_1)
    have r3_3 : rg v0 97 97 := rg_eqA t3_2 h_v0 (show rg (97 : Int32) 97 97 from rg_l (by decide)) (by decide)
    refine lv_iconst (v := 1) hx hb dX7_isLoad_24 (by decide) ?_
    refine lv_goto (tgt := 29) hx hb dX7_isLoad_25 (by decide) ?_
    exact endq_i hQ hx hb hr hlocks dX7_isLoad_29 (by decide) () ⟨(rg_w (show rg (1 : Int32) 1 1 from rg_l (by decide)) (by decide)), (show (1 : Int32).toInt = 1 → (v0.toInt = 97 ∨ v0.toInt = 105 ∨ v0.toInt = 113 ∨ v0.toInt = 121) by have q0 := r3_3.1; have q1 := r3_3.2; have q2 := (show (1 : Int32).toInt = 1 from by decide); omega), (show (1 : Int32).toInt = 0 → ¬ (v0.toInt = 97 ∨ v0.toInt = 105 ∨ v0.toInt = 113 ∨ v0.toInt = 121) by have q0 := (show (1 : Int32).toInt = 1 from by decide); omega)⟩ hP hD hS [] rfl (by decide) rfl (Nat.le_of_ble_eq_true rfl) (Nat.le_of_ble_eq_true rfl)
  · have t3_2 := FF.mk (i_ne c3_1)
    refine lv_iload_n hx hb dX7_isLoad_6 rfl (lv_at hl 0 rfl) ?_
    refine lv_bipush (v := 105) hx hb dX7_isLoad_7 (by decide) ?_
    refine lv_icmp_eq (tgt := 24) hx hb dX7_isLoad_9 (by decide) (fun c9_1 => ?_) (fun c9_1 => ?_)
    · have t9_2 := FF.mk (i_eq c9_1)
      have r9_3 : rg v0 105 105 := rg_eqA t9_2 h_v0 (show rg (105 : Int32) 105 105 from rg_l (by decide)) (by decide)
      refine lv_iconst (v := 1) hx hb dX7_isLoad_24 (by decide) ?_
      refine lv_goto (tgt := 29) hx hb dX7_isLoad_25 (by decide) ?_
      exact endq_i hQ hx hb hr hlocks dX7_isLoad_29 (by decide) () ⟨(rg_w (show rg (1 : Int32) 1 1 from rg_l (by decide)) (by decide)), (show (1 : Int32).toInt = 1 → (v0.toInt = 97 ∨ v0.toInt = 105 ∨ v0.toInt = 113 ∨ v0.toInt = 121) by have q0 := r9_3.1; have q1 := r9_3.2; have q2 := (show (1 : Int32).toInt = 1 from by decide); omega), (show (1 : Int32).toInt = 0 → ¬ (v0.toInt = 97 ∨ v0.toInt = 105 ∨ v0.toInt = 113 ∨ v0.toInt = 121) by have q0 := (show (1 : Int32).toInt = 1 from by decide); omega)⟩ hP hD hS [] rfl (by decide) rfl (Nat.le_of_ble_eq_true rfl) (Nat.le_of_ble_eq_true rfl)
    · have t9_2 := FF.mk (i_ne c9_1)
      refine lv_iload_n hx hb dX7_isLoad_12 rfl (lv_at hl 0 rfl) ?_
      refine lv_bipush (v := 113) hx hb dX7_isLoad_13 (by decide) ?_
      refine lv_icmp_eq (tgt := 24) hx hb dX7_isLoad_15 (by decide) (fun c15_1 => ?_) (fun c15_1 => ?_)
      · have t15_2 := FF.mk (i_eq c15_1)
        have r15_3 : rg v0 113 113 := rg_eqA t15_2 h_v0 (show rg (113 : Int32) 113 113 from rg_l (by decide)) (by decide)
        refine lv_iconst (v := 1) hx hb dX7_isLoad_24 (by decide) ?_
        refine lv_goto (tgt := 29) hx hb dX7_isLoad_25 (by decide) ?_
        exact endq_i hQ hx hb hr hlocks dX7_isLoad_29 (by decide) () ⟨(rg_w (show rg (1 : Int32) 1 1 from rg_l (by decide)) (by decide)), (show (1 : Int32).toInt = 1 → (v0.toInt = 97 ∨ v0.toInt = 105 ∨ v0.toInt = 113 ∨ v0.toInt = 121) by have q0 := r15_3.1; have q1 := r15_3.2; have q2 := (show (1 : Int32).toInt = 1 from by decide); omega), (show (1 : Int32).toInt = 0 → ¬ (v0.toInt = 97 ∨ v0.toInt = 105 ∨ v0.toInt = 113 ∨ v0.toInt = 121) by have q0 := (show (1 : Int32).toInt = 1 from by decide); omega)⟩ hP hD hS [] rfl (by decide) rfl (Nat.le_of_ble_eq_true rfl) (Nat.le_of_ble_eq_true rfl)
      · have t15_2 := FF.mk (i_ne c15_1)
        refine lv_iload_n hx hb dX7_isLoad_18 rfl (lv_at hl 0 rfl) ?_
        refine lv_bipush (v := 121) hx hb dX7_isLoad_19 (by decide) ?_
        refine lv_icmp_ne (tgt := 28) hx hb dX7_isLoad_21 (by decide) (fun c21_1 => ?_) (fun c21_1 => ?_)
        · have t21_2 := FF.mk (i_ne c21_1)
          refine lv_iconst (v := 0) hx hb dX7_isLoad_28 (by decide) ?_
          exact endq_i hQ hx hb hr hlocks dX7_isLoad_29 (by decide) () ⟨(rg_w (show rg (0 : Int32) 0 0 from rg_l (by decide)) (by decide)), (show (0 : Int32).toInt = 1 → (v0.toInt = 97 ∨ v0.toInt = 105 ∨ v0.toInt = 113 ∨ v0.toInt = 121) by have q0 := (show (0 : Int32).toInt = 0 from by decide); omega), (show (0 : Int32).toInt = 0 → ¬ (v0.toInt = 97 ∨ v0.toInt = 105 ∨ v0.toInt = 113 ∨ v0.toInt = 121) by have q0 := FF.out t3_2; have q1 := FF.out t9_2; have q2 := FF.out t15_2; have q3 := FF.out t21_2; have q4 := (show (0 : Int32).toInt = 0 from by decide); have q5 := (show (105 : Int32).toInt = 105 from by decide); have q6 := (show (113 : Int32).toInt = 113 from by decide); have q7 := (show (121 : Int32).toInt = 121 from by decide); have q8 := (show (97 : Int32).toInt = 97 from by decide); omega)⟩ hP hD hS [] rfl (by decide) rfl (Nat.le_of_ble_eq_true rfl) (Nat.le_of_ble_eq_true rfl)
        · have t21_2 := FF.mk (i_eq c21_1)
          have r21_3 : rg v0 121 121 := rg_eqA t21_2 h_v0 (show rg (121 : Int32) 121 121 from rg_l (by decide)) (by decide)
          refine lv_iconst (v := 1) hx hb dX7_isLoad_24 (by decide) ?_
          refine lv_goto (tgt := 29) hx hb dX7_isLoad_25 (by decide) ?_
          exact endq_i hQ hx hb hr hlocks dX7_isLoad_29 (by decide) () ⟨(rg_w (show rg (1 : Int32) 1 1 from rg_l (by decide)) (by decide)), (show (1 : Int32).toInt = 1 → (v0.toInt = 97 ∨ v0.toInt = 105 ∨ v0.toInt = 113 ∨ v0.toInt = 121) by have q0 := r21_3.1; have q1 := r21_3.2; have q2 := (show (1 : Int32).toInt = 1 from by decide); omega), (show (1 : Int32).toInt = 0 → ¬ (v0.toInt = 97 ∨ v0.toInt = 105 ∨ v0.toInt = 113 ∨ v0.toInt = 121) by have q0 := (show (1 : Int32).toInt = 1 from by decide); omega)⟩ hP hD hS [] rfl (by decide) rfl (Nat.le_of_ble_eq_true rfl) (Nat.le_of_ble_eq_true rfl)
set_option maxHeartbeats 2000000 in
theorem c_X7_isRead_w (l : Launch) (D : va_G) (ct : Nat → ClassId) (v0 : Int32) (h_v0 : rg v0 0 255) : KI (S := Unit) l yX7_isRead cX7_isRead 1 (some .boolean) 1 20 D ct [.int v0] [] 0 0 (fun (r : Int32) (_ : Unit) => rg r 0 1 ∧ (r.toInt = 1 → (v0.toInt = 32 ∨ v0.toInt = 40 ∨ v0.toInt = 48 ∨ v0.toInt = 64 ∨ v0.toInt = 72 ∨ v0.toInt = 80)) ∧ (r.toInt = 0 → ¬ (v0.toInt = 32 ∨ v0.toInt = 40 ∨ v0.toInt = 48 ∨ v0.toInt = 64 ∨ v0.toInt = 72 ∨ v0.toInt = 80))) (fun (_ : Unit) => []) := by
  refine KIq_of (by decide) (Nat.le_of_ble_eq_true rfl) (fun p e s m below meth c A Q C0 hA H locs hS hP hD hQ ls hl => ?_)
  obtain ⟨hx, hb, hr, hown, hin, hml, hlocks, hn, hK, hZ, hSK⟩ := C0
  have hl : lv_has ls 1 [(0, .int v0)] := hl
  refine lv_iload_n hx hb dX7_isRead_0 rfl (lv_at hl 0 rfl) ?_
  refine lv_bipush (v := 32) hx hb dX7_isRead_1 (by decide) ?_
  refine lv_icmp_eq (tgt := 36) hx hb dX7_isRead_3 (by decide) (fun c3_1 => ?_) (fun c3_1 => ?_)
  · have t3_2 := FF.mk (i_eq c3_1)
    have r3_3 : rg v0 32 32 := rg_eqA t3_2 h_v0 (show rg (32 : Int32) 32 32 from rg_l (by decide)) (by decide)
    refine lv_iconst (v := 1) hx hb dX7_isRead_36 (by decide) ?_
    refine lv_goto (tgt := 41) hx hb dX7_isRead_37 (by decide) ?_
    exact endq_i hQ hx hb hr hlocks dX7_isRead_41 (by decide) () ⟨(rg_w (show rg (1 : Int32) 1 1 from rg_l (by decide)) (by decide)), (show (1 : Int32).toInt = 1 → (v0.toInt = 32 ∨ v0.toInt = 40 ∨ v0.toInt = 48 ∨ v0.toInt = 64 ∨ v0.toInt = 72 ∨ v0.toInt = 80) by have q0 := r3_3.1; have q1 := r3_3.2; have q2 := (show (1 : Int32).toInt = 1 from by decide); omega), (show (1 : Int32).toInt = 0 → ¬ (v0.toInt = 32 ∨ v0.toInt = 40 ∨ v0.toInt = 48 ∨ v0.toInt = 64 ∨ v0.toInt = 72 ∨ v0.toInt = 80) by have q0 := (show (1 : Int32).toInt = 1 from by decide); omega)⟩ hP hD hS [] rfl (by decide) rfl (Nat.le_of_ble_eq_true rfl) (Nat.le_of_ble_eq_true rfl)
  · have t3_2 := FF.mk (i_ne c3_1)
    refine lv_iload_n hx hb dX7_isRead_6 rfl (lv_at hl 0 rfl) ?_
    refine lv_bipush (v := 40) hx hb dX7_isRead_7 (by decide) ?_
    refine lv_icmp_eq (tgt := 36) hx hb dX7_isRead_9 (by decide) (fun c9_1 => ?_) (fun c9_1 => ?_)
    · have t9_2 := FF.mk (i_eq c9_1)
      have r9_3 : rg v0 40 40 := rg_eqA t9_2 h_v0 (show rg (40 : Int32) 40 40 from rg_l (by decide)) (by decide)
      refine lv_iconst (v := 1) hx hb dX7_isRead_36 (by decide) ?_
      refine lv_goto (tgt := 41) hx hb dX7_isRead_37 (by decide) ?_
      exact endq_i hQ hx hb hr hlocks dX7_isRead_41 (by decide) () ⟨(rg_w (show rg (1 : Int32) 1 1 from rg_l (by decide)) (by decide)), (show (1 : Int32).toInt = 1 → (v0.toInt = 32 ∨ v0.toInt = 40 ∨ v0.toInt = 48 ∨ v0.toInt = 64 ∨ v0.toInt = 72 ∨ v0.toInt = 80) by have q0 := r9_3.1; have q1 := r9_3.2; have q2 := (show (1 : Int32).toInt = 1 from by decide); omega), (show (1 : Int32).toInt = 0 → ¬ (v0.toInt = 32 ∨ v0.toInt = 40 ∨ v0.toInt = 48 ∨ v0.toInt = 64 ∨ v0.toInt = 72 ∨ v0.toInt = 80) by have q0 := (show (1 : Int32).toInt = 1 from by decide); omega)⟩ hP hD hS [] rfl (by decide) rfl (Nat.le_of_ble_eq_true rfl) (Nat.le_of_ble_eq_true rfl)
    · have t9_2 := FF.mk (i_ne c9_1)
      refine lv_iload_n hx hb dX7_isRead_12 rfl (lv_at hl 0 rfl) ?_
      refine lv_bipush (v := 48) hx hb dX7_isRead_13 (by decide) ?_
      refine lv_icmp_eq (tgt := 36) hx hb dX7_isRead_15 (by decide) (fun c15_1 => ?_) (fun c15_1 => ?_)
      · have t15_2 := FF.mk (i_eq c15_1)
        have r15_3 : rg v0 48 48 := rg_eqA t15_2 h_v0 (show rg (48 : Int32) 48 48 from rg_l (by decide)) (by decide)
        refine lv_iconst (v := 1) hx hb dX7_isRead_36 (by decide) ?_
        refine lv_goto (tgt := 41) hx hb dX7_isRead_37 (by decide) ?_
        exact endq_i hQ hx hb hr hlocks dX7_isRead_41 (by decide) () ⟨(rg_w (show rg (1 : Int32) 1 1 from rg_l (by decide)) (by decide)), (show (1 : Int32).toInt = 1 → (v0.toInt = 32 ∨ v0.toInt = 40 ∨ v0.toInt = 48 ∨ v0.toInt = 64 ∨ v0.toInt = 72 ∨ v0.toInt = 80) by have q0 := r15_3.1; have q1 := r15_3.2; have q2 := (show (1 : Int32).toInt = 1 from by decide); omega), (show (1 : Int32).toInt = 0 → ¬ (v0.toInt = 32 ∨ v0.toInt = 40 ∨ v0.toInt = 48 ∨ v0.toInt = 64 ∨ v0.toInt = 72 ∨ v0.toInt = 80) by have q0 := (show (1 : Int32).toInt = 1 from by decide); omega)⟩ hP hD hS [] rfl (by decide) rfl (Nat.le_of_ble_eq_true rfl) (Nat.le_of_ble_eq_true rfl)
      · have t15_2 := FF.mk (i_ne c15_1)
        refine lv_iload_n hx hb dX7_isRead_18 rfl (lv_at hl 0 rfl) ?_
        refine lv_bipush (v := 64) hx hb dX7_isRead_19 (by decide) ?_
        refine lv_icmp_eq (tgt := 36) hx hb dX7_isRead_21 (by decide) (fun c21_1 => ?_) (fun c21_1 => ?_)
        · have t21_2 := FF.mk (i_eq c21_1)
          have r21_3 : rg v0 64 64 := rg_eqA t21_2 h_v0 (show rg (64 : Int32) 64 64 from rg_l (by decide)) (by decide)
          refine lv_iconst (v := 1) hx hb dX7_isRead_36 (by decide) ?_
          refine lv_goto (tgt := 41) hx hb dX7_isRead_37 (by decide) ?_
          exact endq_i hQ hx hb hr hlocks dX7_isRead_41 (by decide) () ⟨(rg_w (show rg (1 : Int32) 1 1 from rg_l (by decide)) (by decide)), (show (1 : Int32).toInt = 1 → (v0.toInt = 32 ∨ v0.toInt = 40 ∨ v0.toInt = 48 ∨ v0.toInt = 64 ∨ v0.toInt = 72 ∨ v0.toInt = 80) by have q0 := r21_3.1; have q1 := r21_3.2; have q2 := (show (1 : Int32).toInt = 1 from by decide); omega), (show (1 : Int32).toInt = 0 → ¬ (v0.toInt = 32 ∨ v0.toInt = 40 ∨ v0.toInt = 48 ∨ v0.toInt = 64 ∨ v0.toInt = 72 ∨ v0.toInt = 80) by have q0 := (show (1 : Int32).toInt = 1 from by decide); omega)⟩ hP hD hS [] rfl (by decide) rfl (Nat.le_of_ble_eq_true rfl) (Nat.le_of_ble_eq_true rfl)
        · have t21_2 := FF.mk (i_ne c21_1)
          refine lv_iload_n hx hb dX7_isRead_24 rfl (lv_at hl 0 rfl) ?_
          refine lv_bipush (v := 72) hx hb dX7_isRead_25 (by decide) ?_
          refine lv_icmp_eq (tgt := 36) hx hb dX7_isRead_27 (by decide) (fun c27_1 => ?_) (fun c27_1 => ?_)
          · have t27_2 := FF.mk (i_eq c27_1)
            have r27_3 : rg v0 72 72 := rg_eqA t27_2 h_v0 (show rg (72 : Int32) 72 72 from rg_l (by decide)) (by decide)
            refine lv_iconst (v := 1) hx hb dX7_isRead_36 (by decide) ?_
            refine lv_goto (tgt := 41) hx hb dX7_isRead_37 (by decide) ?_
            exact endq_i hQ hx hb hr hlocks dX7_isRead_41 (by decide) () ⟨(rg_w (show rg (1 : Int32) 1 1 from rg_l (by decide)) (by decide)), (show (1 : Int32).toInt = 1 → (v0.toInt = 32 ∨ v0.toInt = 40 ∨ v0.toInt = 48 ∨ v0.toInt = 64 ∨ v0.toInt = 72 ∨ v0.toInt = 80) by have q0 := r27_3.1; have q1 := r27_3.2; have q2 := (show (1 : Int32).toInt = 1 from by decide); omega), (show (1 : Int32).toInt = 0 → ¬ (v0.toInt = 32 ∨ v0.toInt = 40 ∨ v0.toInt = 48 ∨ v0.toInt = 64 ∨ v0.toInt = 72 ∨ v0.toInt = 80) by have q0 := (show (1 : Int32).toInt = 1 from by decide); omega)⟩ hP hD hS [] rfl (by decide) rfl (Nat.le_of_ble_eq_true rfl) (Nat.le_of_ble_eq_true rfl)
          · have t27_2 := FF.mk (i_ne c27_1)
            refine lv_iload_n hx hb dX7_isRead_30 rfl (lv_at hl 0 rfl) ?_
            refine lv_bipush (v := 80) hx hb dX7_isRead_31 (by decide) ?_
            refine lv_icmp_ne (tgt := 40) hx hb dX7_isRead_33 (by decide) (fun c33_1 => ?_) (fun c33_1 => ?_)
            · have t33_2 := FF.mk (i_ne c33_1)
              refine lv_iconst (v := 0) hx hb dX7_isRead_40 (by decide) ?_
              exact endq_i hQ hx hb hr hlocks dX7_isRead_41 (by decide) () ⟨(rg_w (show rg (0 : Int32) 0 0 from rg_l (by decide)) (by decide)), (show (0 : Int32).toInt = 1 → (v0.toInt = 32 ∨ v0.toInt = 40 ∨ v0.toInt = 48 ∨ v0.toInt = 64 ∨ v0.toInt = 72 ∨ v0.toInt = 80) by have q0 := (show (0 : Int32).toInt = 0 from by decide); omega), (show (0 : Int32).toInt = 0 → ¬ (v0.toInt = 32 ∨ v0.toInt = 40 ∨ v0.toInt = 48 ∨ v0.toInt = 64 ∨ v0.toInt = 72 ∨ v0.toInt = 80) by have q0 := FF.out t3_2; have q1 := FF.out t9_2; have q2 := FF.out t15_2; have q3 := FF.out t21_2; have q4 := FF.out t27_2; have q5 := FF.out t33_2; have q6 := (show (0 : Int32).toInt = 0 from by decide); have q7 := (show (32 : Int32).toInt = 32 from by decide); have q8 := (show (40 : Int32).toInt = 40 from by decide); have q9 := (show (48 : Int32).toInt = 48 from by decide); have q10 := (show (64 : Int32).toInt = 64 from by decide); have q11 := (show (72 : Int32).toInt = 72 from by decide); have q12 := (show (80 : Int32).toInt = 80 from by decide); omega)⟩ hP hD hS [] rfl (by decide) rfl (Nat.le_of_ble_eq_true rfl) (Nat.le_of_ble_eq_true rfl)
            · have t33_2 := FF.mk (i_eq c33_1)
              have r33_3 : rg v0 80 80 := rg_eqA t33_2 h_v0 (show rg (80 : Int32) 80 80 from rg_l (by decide)) (by decide)
              refine lv_iconst (v := 1) hx hb dX7_isRead_36 (by decide) ?_
              refine lv_goto (tgt := 41) hx hb dX7_isRead_37 (by decide) ?_
              exact endq_i hQ hx hb hr hlocks dX7_isRead_41 (by decide) () ⟨(rg_w (show rg (1 : Int32) 1 1 from rg_l (by decide)) (by decide)), (show (1 : Int32).toInt = 1 → (v0.toInt = 32 ∨ v0.toInt = 40 ∨ v0.toInt = 48 ∨ v0.toInt = 64 ∨ v0.toInt = 72 ∨ v0.toInt = 80) by have q0 := r33_3.1; have q1 := r33_3.2; have q2 := (show (1 : Int32).toInt = 1 from by decide); omega), (show (1 : Int32).toInt = 0 → ¬ (v0.toInt = 32 ∨ v0.toInt = 40 ∨ v0.toInt = 48 ∨ v0.toInt = 64 ∨ v0.toInt = 72 ∨ v0.toInt = 80) by have q0 := (show (1 : Int32).toInt = 1 from by decide); omega)⟩ hP hD hS [] rfl (by decide) rfl (Nat.le_of_ble_eq_true rfl) (Nat.le_of_ble_eq_true rfl)
set_option maxHeartbeats 2000000 in
theorem c_X7_sizeOf_w (l : Launch) (D : va_G) (ct : Nat → ClassId) (v0 : Int32) (h_v0 : rg v0 0 255) : KI (S := Unit) l yX7_sizeOf cX7_sizeOf 1 (some .int) 1 20 D ct [.int v0] [] 0 0 (fun (r : Int32) (_ : Unit) => rg r 1 8 ∧ ((v0.toInt / 8) % 4 = 0 → r.toInt = 4) ∧ ((v0.toInt / 8) % 4 = 1 → r.toInt = 2) ∧ ((v0.toInt / 8) % 4 = 2 → r.toInt = 1) ∧ ((v0.toInt / 8) % 4 = 3 → r.toInt = 8)) (fun (_ : Unit) => []) := by
  refine KIq_of (by decide) (Nat.le_of_ble_eq_true rfl) (fun p e s m below meth c A Q C0 hA H locs hS hP hD hQ ls hl => ?_)
  obtain ⟨hx, hb, hr, hown, hin, hml, hlocks, hn, hK, hZ, hSK⟩ := C0
  have hl : lv_has ls 1 [(0, .int v0)] := hl
  refine lv_iload_n hx hb dX7_sizeOf_0 rfl (lv_at hl 0 rfl) ?_
  refine lv_iconst (v := 3) hx hb dX7_sizeOf_1 (by decide) ?_
  refine lv_ishr hx hb dX7_sizeOf_2 ?_
  refine lv_topi (fun z2_1 ez2_1 => ?_)
  have r2_2 : rg z2_1 0 31 := rg_shr (k := 3) ez2_1 (by decide) h_v0 (by decide)
  refine lv_iconst (v := 3) hx hb dX7_sizeOf_3 (by decide) ?_
  refine lv_iand hx hb dX7_sizeOf_4 ?_
  refine lv_topi (fun z4_1 ez4_1 => ?_)
  have r4_2 : rg z4_1 0 3 := rg_andr ez4_1 (show rg (3 : Int32) 3 3 from rg_l (by decide)) (by decide)
  by_cases h5_101 : z4_1.toInt = 0
  · have r5_102 : rg z4_1 0 0 := rg_at h5_101
    have hl5_103 := FF.mk h5_101
    refine lv_tableIn (off := 27) (tgt := 32) hx hb dX7_sizeOf_5 (by rw [h5_101]; decide) (by rw [h5_101]; decide) (by rw [h5_101]; rfl) (by decide) ?_
    refine lv_iconst (v := 4) hx hb dX7_sizeOf_32 (by decide) ?_
    exact endq_i hQ hx hb hr hlocks dX7_sizeOf_33 rfl () ⟨(rg_w (show rg (4 : Int32) 4 4 from rg_l (by decide)) (by decide)), (show (v0.toInt / 8) % 4 = 0 → (4 : Int32).toInt = 4 by have q0 := (show (4 : Int32).toInt = 4 from by decide); omega), (show (v0.toInt / 8) % 4 = 1 → (4 : Int32).toInt = 2 by have q0 := r5_102.2; have q1 := (eq_and (c := 4) (k := 2) ez4_1 (by decide) (by decide)); have q2 := (eq_shr (c := 8) (k := 3) ez2_1 (by decide) (by decide)); have q3 := (show (4 : Int32).toInt = 4 from by decide); omega), (show (v0.toInt / 8) % 4 = 2 → (4 : Int32).toInt = 1 by have q0 := r5_102.2; have q1 := (eq_and (c := 4) (k := 2) ez4_1 (by decide) (by decide)); have q2 := (eq_shr (c := 8) (k := 3) ez2_1 (by decide) (by decide)); have q3 := (show (4 : Int32).toInt = 4 from by decide); omega), (show (v0.toInt / 8) % 4 = 3 → (4 : Int32).toInt = 8 by have q0 := r5_102.2; have q1 := (eq_and (c := 4) (k := 2) ez4_1 (by decide) (by decide)); have q2 := (eq_shr (c := 8) (k := 3) ez2_1 (by decide) (by decide)); have q3 := (show (4 : Int32).toInt = 4 from by decide); omega)⟩ hP hD hS [] rfl (by decide) rfl (Nat.le_of_ble_eq_true rfl) (Nat.le_of_ble_eq_true rfl)
  by_cases h5_111 : z4_1.toInt = 1
  · have r5_112 : rg z4_1 1 1 := rg_at h5_111
    have hl5_113 := FF.mk h5_111
    refine lv_tableIn (off := 29) (tgt := 34) hx hb dX7_sizeOf_5 (by rw [h5_111]; decide) (by rw [h5_111]; decide) (by rw [h5_111]; rfl) (by decide) ?_
    refine lv_iconst (v := 2) hx hb dX7_sizeOf_34 (by decide) ?_
    exact endq_i hQ hx hb hr hlocks dX7_sizeOf_35 rfl () ⟨(rg_w (show rg (2 : Int32) 2 2 from rg_l (by decide)) (by decide)), (show (v0.toInt / 8) % 4 = 0 → (2 : Int32).toInt = 4 by have q0 := r5_112.1; have q1 := (eq_and (c := 4) (k := 2) ez4_1 (by decide) (by decide)); have q2 := (eq_shr (c := 8) (k := 3) ez2_1 (by decide) (by decide)); have q3 := (show (2 : Int32).toInt = 2 from by decide); omega), (show (v0.toInt / 8) % 4 = 1 → (2 : Int32).toInt = 2 by have q0 := (show (2 : Int32).toInt = 2 from by decide); omega), (show (v0.toInt / 8) % 4 = 2 → (2 : Int32).toInt = 1 by have q0 := r5_112.2; have q1 := (eq_and (c := 4) (k := 2) ez4_1 (by decide) (by decide)); have q2 := (eq_shr (c := 8) (k := 3) ez2_1 (by decide) (by decide)); have q3 := (show (2 : Int32).toInt = 2 from by decide); omega), (show (v0.toInt / 8) % 4 = 3 → (2 : Int32).toInt = 8 by have q0 := r5_112.2; have q1 := (eq_and (c := 4) (k := 2) ez4_1 (by decide) (by decide)); have q2 := (eq_shr (c := 8) (k := 3) ez2_1 (by decide) (by decide)); have q3 := (show (2 : Int32).toInt = 2 from by decide); omega)⟩ hP hD hS [] rfl (by decide) rfl (Nat.le_of_ble_eq_true rfl) (Nat.le_of_ble_eq_true rfl)
  by_cases h5_121 : z4_1.toInt = 2
  · have r5_122 : rg z4_1 2 2 := rg_at h5_121
    have hl5_123 := FF.mk h5_121
    refine lv_tableIn (off := 31) (tgt := 36) hx hb dX7_sizeOf_5 (by rw [h5_121]; decide) (by rw [h5_121]; decide) (by rw [h5_121]; rfl) (by decide) ?_
    refine lv_iconst (v := 1) hx hb dX7_sizeOf_36 (by decide) ?_
    exact endq_i hQ hx hb hr hlocks dX7_sizeOf_37 rfl () ⟨(rg_w (show rg (1 : Int32) 1 1 from rg_l (by decide)) (by decide)), (show (v0.toInt / 8) % 4 = 0 → (1 : Int32).toInt = 4 by have q0 := r5_122.1; have q1 := (eq_and (c := 4) (k := 2) ez4_1 (by decide) (by decide)); have q2 := (eq_shr (c := 8) (k := 3) ez2_1 (by decide) (by decide)); have q3 := (show (1 : Int32).toInt = 1 from by decide); omega), (show (v0.toInt / 8) % 4 = 1 → (1 : Int32).toInt = 2 by have q0 := r5_122.1; have q1 := (eq_and (c := 4) (k := 2) ez4_1 (by decide) (by decide)); have q2 := (eq_shr (c := 8) (k := 3) ez2_1 (by decide) (by decide)); have q3 := (show (1 : Int32).toInt = 1 from by decide); omega), (show (v0.toInt / 8) % 4 = 2 → (1 : Int32).toInt = 1 by have q0 := (show (1 : Int32).toInt = 1 from by decide); omega), (show (v0.toInt / 8) % 4 = 3 → (1 : Int32).toInt = 8 by have q0 := r5_122.2; have q1 := (eq_and (c := 4) (k := 2) ez4_1 (by decide) (by decide)); have q2 := (eq_shr (c := 8) (k := 3) ez2_1 (by decide) (by decide)); have q3 := (show (1 : Int32).toInt = 1 from by decide); omega)⟩ hP hD hS [] rfl (by decide) rfl (Nat.le_of_ble_eq_true rfl) (Nat.le_of_ble_eq_true rfl)
  refine lv_tableOut (tgt := 38) hx hb dX7_sizeOf_5 (by have q0 := r4_2; have q1 := q0.1; have q2 := q0.2; omega) (by decide) ?_
  have hl5_5001 := FF.mk h5_101
  have hl5_5002 := FF.mk h5_111
  have hl5_5003 := FF.mk h5_121
  refine lv_bipush (v := 8) hx hb dX7_sizeOf_38 (by decide) ?_
  exact endq_i hQ hx hb hr hlocks dX7_sizeOf_40 rfl () ⟨(rg_w (show rg (8 : Int32) 8 8 from rg_l (by decide)) (by decide)), (show (v0.toInt / 8) % 4 = 0 → (8 : Int32).toInt = 4 by have q0 := r4_2.1; have q1 := (eq_and (c := 4) (k := 2) ez4_1 (by decide) (by decide)); have q2 := (eq_shr (c := 8) (k := 3) ez2_1 (by decide) (by decide)); have q3 := FF.out hl5_5001; have q4 := (show (8 : Int32).toInt = 8 from by decide); omega), (show (v0.toInt / 8) % 4 = 1 → (8 : Int32).toInt = 2 by have q0 := (eq_and (c := 4) (k := 2) ez4_1 (by decide) (by decide)); have q1 := (eq_shr (c := 8) (k := 3) ez2_1 (by decide) (by decide)); have q2 := FF.out hl5_5002; have q3 := (show (8 : Int32).toInt = 8 from by decide); omega), (show (v0.toInt / 8) % 4 = 2 → (8 : Int32).toInt = 1 by have q0 := (eq_and (c := 4) (k := 2) ez4_1 (by decide) (by decide)); have q1 := (eq_shr (c := 8) (k := 3) ez2_1 (by decide) (by decide)); have q2 := FF.out hl5_5003; have q3 := (show (8 : Int32).toInt = 8 from by decide); omega), (show (v0.toInt / 8) % 4 = 3 → (8 : Int32).toInt = 8 by have q0 := (show (8 : Int32).toInt = 8 from by decide); omega)⟩ hP hD hS [] rfl (by decide) rfl (Nat.le_of_ble_eq_true rfl) (Nat.le_of_ble_eq_true rfl)
set_option maxHeartbeats 2000000 in
theorem c_X7_offOf_w (l : Launch) (D : va_G) (ct : Nat → ClassId) (v0 : Int64)  : KI (S := Unit) l yX7_offOf cX7_offOf 2 (some .int) 1 20 D ct [.long v0] [] 0 0 (fun (r : Int32) (_ : Unit) => rg r (-32768) 32767 ∧ (r.toInt = (v0.toInt / 65536 + 32768) % 65536 - 32768)) (fun (_ : Unit) => []) := by
  refine KIq_of (by decide) (Nat.le_of_ble_eq_true rfl) (fun p e s m below meth c A Q C0 hA H locs hS hP hD hQ ls hl => ?_)
  obtain ⟨hx, hb, hr, hown, hin, hml, hlocks, hn, hK, hZ, hSK⟩ := C0
  have hl : lv_has ls 2 [(0, .long v0)] := hl
  refine lv_lload_n hx hb dX7_offOf_0 rfl (lv_at hl 0 rfl) ?_
  refine lv_bipush (v := 16) hx hb dX7_offOf_1 (by decide) ?_
  refine lv_lshr hx hb dX7_offOf_3 rfl ?_
  refine lv_topl (fun z3_1 ez3_1 => ?_)
  have r3_2 : rl z3_1 (-140737488355328) 140737488355327 := (rl_of (show (-140737488355328) ≤ z3_1.toInt ∧ z3_1.toInt ≤ 140737488355327 by have q0 := (rl_any z3_1).1; have q1 := (rl_any z3_1).2; have q2 := (eqL_shr (c := 65536) (k := 16) ez3_1 (by decide) (by decide)); have q3 := (rl_any v0).1; have q4 := (rl_any v0).2; omega))
  refine lv_l2i hx hb dX7_offOf_4 rfl ?_
  refine lv_topi (fun z4_1 ez4_1 => ?_)
  refine lv_i2s hx hb dX7_offOf_5 rfl ?_
  refine lv_topi (fun z5_1 ez5_1 => ?_)
  have r5_2 : rg z5_1 (-32768) 32767 := rg_i2s ez5_1
  exact endq_i hQ hx hb hr hlocks dX7_offOf_6 rfl () ⟨r5_2, (show z5_1.toInt = (v0.toInt / 65536 + 32768) % 65536 - 32768 by have q0 := (rl_any v0).1; have q1 := (rl_any v0).2; have q2 := r5_2.1; have q3 := r5_2.2; have q4 := (eq_i2s ez5_1); have q5 := (rg_any z4_1).1; have q6 := (rg_any z4_1).2; have q7 := (em_l2i ez4_1); have q8 := r3_2.1; have q9 := r3_2.2; have q10 := (eqL_shr (c := 65536) (k := 16) ez3_1 (by decide) (by decide)); omega)⟩ hP hD hS [] rfl (by decide) rfl (Nat.le_of_ble_eq_true rfl) (Nat.le_of_ble_eq_true rfl)
set_option maxHeartbeats 2000000 in
theorem c_X7_kOf_w (l : Launch) (D : va_G) (ct : Nat → ClassId) (v0 : Int64)  : KI (S := Unit) l yX7_kOf cX7_kOf 2 (some .int) 1 20 D ct [.long v0] [] 0 0 (fun (r : Int32) (_ : Unit) => (r.toInt = v0.toInt / 4294967296)) (fun (_ : Unit) => []) := by
  refine KIq_of (by decide) (Nat.le_of_ble_eq_true rfl) (fun p e s m below meth c A Q C0 hA H locs hS hP hD hQ ls hl => ?_)
  obtain ⟨hx, hb, hr, hown, hin, hml, hlocks, hn, hK, hZ, hSK⟩ := C0
  have hl : lv_has ls 2 [(0, .long v0)] := hl
  refine lv_lload_n hx hb dX7_kOf_0 rfl (lv_at hl 0 rfl) ?_
  refine lv_bipush (v := 32) hx hb dX7_kOf_1 (by decide) ?_
  refine lv_lshr hx hb dX7_kOf_3 rfl ?_
  refine lv_topl (fun z3_1 ez3_1 => ?_)
  have r3_2 : rl z3_1 (-2147483648) 2147483647 := (rl_of (show (-2147483648) ≤ z3_1.toInt ∧ z3_1.toInt ≤ 2147483647 by have q0 := (rl_any z3_1).1; have q1 := (rl_any z3_1).2; have q2 := (eqL_shr (c := 4294967296) (k := 32) ez3_1 (by decide) (by decide)); have q3 := (rl_any v0).1; have q4 := (rl_any v0).2; omega))
  have r4_1 : rl z3_1 (-2147483648) 2147483647 := rl_of (show -2147483648 ≤ z3_1.toInt ∧ z3_1.toInt ≤ 2147483647 by have q0 := r3_2.1; have q1 := r3_2.2; omega)
  refine lv_l2i hx hb dX7_kOf_4 rfl ?_
  refine lv_topi (fun z4_2 ez4_2 => ?_)
  have r4_3 : rg z4_2 (-2147483648) 2147483647 := rg_l2i ez4_2 r4_1 (by decide)
  exact endq_i hQ hx hb hr hlocks dX7_kOf_5 rfl () (show z4_2.toInt = v0.toInt / 4294967296 by have q0 := (rl_any v0).1; have q1 := (rl_any v0).2; have q2 := r4_3.1; have q3 := r4_3.2; have q4 := (eq_l2i ez4_2 r4_1 (by decide)); have q5 := r4_1.1; have q6 := r4_1.2; have q7 := (eqL_shr (c := 4294967296) (k := 32) ez3_1 (by decide) (by decide)); omega) hP hD hS [] rfl (by decide) rfl (Nat.le_of_ble_eq_true rfl) (Nat.le_of_ble_eq_true rfl)
set_option maxHeartbeats 2000000 in
theorem c_X10_putNumber_w (l : Launch) (D : va_G) (ct : Nat → ClassId) (tl : Nat) (v0 : Int32) (v1 : Int32) (tls : Nat) (o0 : Nat) (p0 : Nat) (x_tl_3 : Int32) (x_tl_4 : Int32) (o0r : Nat) (x_o0_1 : Int32) (g_o0r : Nat → Int32) (h_x_tl_3 : rg x_tl_3 0 1) (h_x_tl_4 : rg x_tl_4 0 999950) (h_x_o0_1 : rg x_o0_1 0 60000) : KV (S := Int32 × (Nat → Int32)) l yX10_putNumber cX10_putNumber 3 none 2 41 D ct [.ref tl, .int v0, .int v1] [(tl, .inr (10, [.ref tls, .ref o0, .ref p0, .int x_tl_3, .int x_tl_4])), (o0, .inr (5, [.ref o0r, .int x_o0_1])), (o0r, .inl (ct 1, 60000, .inl g_o0r))] 0 0 (fun (u : Int32 × (Nat → Int32)) => match u with | (y_tl_4, k_o0r) => rg y_tl_4 1 1000001 ∧ (x_tl_4.toInt + 1 ≤ y_tl_4.toInt ∧ y_tl_4.toInt ≤ x_tl_4.toInt + 2) ∧ (-2048 ≤ v1.toInt ∧ v1.toInt ≤ 2047 → y_tl_4.toInt = x_tl_4.toInt + 1) ∧ (v1.toInt < -2048 ∨ 2047 < v1.toInt → y_tl_4.toInt = x_tl_4.toInt + 2)) (fun (u : Int32 × (Nat → Int32)) => match u with | (y_tl_4, k_o0r) => [(tl, .inr (10, [.ref tls, .ref o0, .ref p0, .int x_tl_3, .int y_tl_4])), (o0, .inr (5, [.ref o0r, .int x_o0_1])), (o0r, .inl (ct 1, 60000, .inl k_o0r))]) := by
  refine KVq_of (by decide) (Nat.le_of_ble_eq_true rfl) (fun p e s m below meth c A Q C0 hA H locs hS hP hD hQ ls hl => ?_)
  obtain ⟨hx, hb, hr, hown, hin, hml, hlocks, hn, hK, hZ, hSK⟩ := C0
  have hl : lv_has ls 3 [(0, .ref tl), (1, .int v0), (2, .int v1)] := hl
  refine lv_iload_n hx hb dX10_putNumber_0 rfl (lv_at hl 2 rfl) ?_
  refine lv_sipush (v := (-2048)) hx hb dX10_putNumber_1 (by decide) ?_
  refine lv_icmp_lt (tgt := 31) hx hb dX10_putNumber_4 (by decide) (fun c4_1 => ?_) (fun c4_1 => ?_)
  · have t4_2 := FF.mk (i_lt c4_1)
    have r4_3 : rg v1 (-2147483648) (-2049) := rg_ltA t4_2 (rg_any v1) (show rg ((-2048) : Int32) (-2048) (-2048) from rg_l (by decide)) (by decide)
    refine lv_aload_n hx hb dX10_putNumber_31 rfl (lv_at hl 0 rfl) ?_
    refine lv_iload_n hx hb dX10_putNumber_32 rfl (lv_at hl 2 rfl) ?_
    refine lv_sipush (v := 2048) hx hb dX10_putNumber_33 (by decide) ?_
    refine lv_iadd hx hb dX10_putNumber_36 ?_
    refine lv_topi (fun z36_1 ez36_1 => ?_)
    have r36_2 : rg z36_1 (-2147481600) (-1) := rg_add ez36_1 r4_3 (show rg (2048 : Int32) 2048 2048 from rg_l (by decide)) (by decide)
    refine lv_sipush (v := (-4096)) hx hb dX10_putNumber_37 (by decide) ?_
    refine lv_iand hx hb dX10_putNumber_40 ?_
    refine lv_topi (fun z40_1 ez40_1 => ?_)
    refine lv_iload_n hx hb dX10_putNumber_41 rfl (lv_at hl 1 rfl) ?_
    refine lv_bipush (v := 7) hx hb dX10_putNumber_42 (by decide) ?_
    refine lv_ishl hx hb dX10_putNumber_44 ?_
    refine lv_topi (fun z44_1 ez44_1 => ?_)
    refine lv_ior hx hb dX10_putNumber_45 ?_
    refine lv_topi (fun z45_1 ez45_1 => ?_)
    refine lv_bipush (v := 55) hx hb dX10_putNumber_46 (by decide) ?_
    refine lv_ior hx hb dX10_putNumber_48 ?_
    refine lv_topi (fun z48_1 ez48_1 => ?_)
    refine go_v (k1 := 0) (n1 := 0) (wr := []) [0, 1, 2] [] (rn_V (As := [.int z48_1]) (rest := []) (c_X10_put l D ct tl z48_1 tls o0 p0 x_tl_3 x_tl_4 o0r x_o0_1 g_o0r h_x_tl_3 (rg_w h_x_tl_4 (by decide)) h_x_o0_1 _) (cb_of (n := 1) hn mw_1319 mw_10 mw_1316 mhX10_put ⟨(Nat.le_of_ble_eq_true rfl), (Nat.le_of_ble_eq_true rfl)⟩) hx hb hml hown hn hK hSK hZ hS mw_1318 mw_s149 (ci := 10) (q0 := 0) rfl rfl rfl rfl hl.1 (Nat.le_of_ble_eq_true rfl) dX10_putNumber_49 ⟨(Nat.le_of_ble_eq_true rfl), (Nat.le_of_ble_eq_true rfl)⟩) hP hD hS hA rfl rfl (by decide) (by decide) (by decide) (Nat.le_of_ble_eq_true rfl) (Nat.le_of_ble_eq_true rfl) (fun u49_2 H locs hp49_3 hP hD hS => ?_)
    obtain ⟨y_tl_449_4, k_o0r49_5⟩ := u49_2
    obtain ⟨hp49_6, hp49_7⟩ := hp49_3
    have hp49_6 : rg y_tl_449_4 1 1000001 := hp49_6
    replace hp49_7 : FF (y_tl_449_4.toInt = x_tl_4.toInt + 1) := hp49_7
    have hP : va_P D vwCl [(tl, .inr (10, [.ref tls, .ref o0, .ref p0, .int x_tl_3, .int y_tl_449_4])), (o0, .inr (5, [.ref o0r, .int x_o0_1])), (o0r, .inl (ct 1, 60000, .inl k_o0r49_5))] _ := hP
    have hD : va_D A [(tl, .inr (10, [.ref tls, .ref o0, .ref p0, .int x_tl_3, .int y_tl_449_4])), (o0, .inr (5, [.ref o0r, .int x_o0_1])), (o0r, .inl (ct 1, 60000, .inl k_o0r49_5))] := hD
    refine lv_aload_n hx hb dX10_putNumber_52 rfl (lv_at hl 0 rfl) ?_
    refine lv_iload_n hx hb dX10_putNumber_53 rfl (lv_at hl 2 rfl) ?_
    refine lv_bipush (v := 20) hx hb dX10_putNumber_54 (by decide) ?_
    refine lv_ishl hx hb dX10_putNumber_56 ?_
    refine lv_topi (fun z56_1 ez56_1 => ?_)
    refine lv_iload_n hx hb dX10_putNumber_57 rfl (lv_at hl 1 rfl) ?_
    refine lv_bipush (v := 15) hx hb dX10_putNumber_58 (by decide) ?_
    refine lv_ishl hx hb dX10_putNumber_60 ?_
    refine lv_topi (fun z60_1 ez60_1 => ?_)
    refine lv_ior hx hb dX10_putNumber_61 ?_
    refine lv_topi (fun z61_1 ez61_1 => ?_)
    refine lv_iload_n hx hb dX10_putNumber_62 rfl (lv_at hl 1 rfl) ?_
    refine lv_bipush (v := 7) hx hb dX10_putNumber_63 (by decide) ?_
    refine lv_ishl hx hb dX10_putNumber_65 ?_
    refine lv_topi (fun z65_1 ez65_1 => ?_)
    refine lv_ior hx hb dX10_putNumber_66 ?_
    refine lv_topi (fun z66_1 ez66_1 => ?_)
    refine lv_bipush (v := 27) hx hb dX10_putNumber_67 (by decide) ?_
    refine lv_ior hx hb dX10_putNumber_69 ?_
    refine lv_topi (fun z69_1 ez69_1 => ?_)
    refine go_v (k1 := 0) (n1 := 0) (wr := []) [0, 1, 2] [] (rn_V (As := [.int z69_1]) (rest := []) (c_X10_put l D ct tl z69_1 tls o0 p0 x_tl_3 y_tl_449_4 o0r x_o0_1 k_o0r49_5 h_x_tl_3 (rg_of (show 0 ≤ y_tl_449_4.toInt ∧ y_tl_449_4.toInt ≤ 1000000 by have q0 := hp49_6.1; have q1 := h_x_tl_4.2; have q2 := FF.out hp49_7; omega)) h_x_o0_1 _) (cb_of (n := 1) hn mw_1319 mw_10 mw_1316 mhX10_put ⟨(Nat.le_of_ble_eq_true rfl), (Nat.le_of_ble_eq_true rfl)⟩) hx hb hml hown hn hK hSK hZ hS mw_1318 mw_s149 (ci := 10) (q0 := 0) rfl rfl rfl rfl hl.1 (Nat.le_of_ble_eq_true rfl) dX10_putNumber_70 ⟨(Nat.le_of_ble_eq_true rfl), (Nat.le_of_ble_eq_true rfl)⟩) hP hD hS hA rfl rfl (by decide) (by decide) (by decide) (Nat.le_of_ble_eq_true rfl) (Nat.le_of_ble_eq_true rfl) (fun u70_2 H locs hp70_3 hP hD hS => ?_)
    obtain ⟨y_tl_470_4, k_o0r70_5⟩ := u70_2
    obtain ⟨hp70_6, hp70_7⟩ := hp70_3
    have hp70_6 : rg y_tl_470_4 1 1000001 := hp70_6
    replace hp70_7 : FF (y_tl_470_4.toInt = y_tl_449_4.toInt + 1) := hp70_7
    have hP : va_P D vwCl [(tl, .inr (10, [.ref tls, .ref o0, .ref p0, .int x_tl_3, .int y_tl_470_4])), (o0, .inr (5, [.ref o0r, .int x_o0_1])), (o0r, .inl (ct 1, 60000, .inl k_o0r70_5))] _ := hP
    have hD : va_D A [(tl, .inr (10, [.ref tls, .ref o0, .ref p0, .int x_tl_3, .int y_tl_470_4])), (o0, .inr (5, [.ref o0r, .int x_o0_1])), (o0r, .inl (ct 1, 60000, .inl k_o0r70_5))] := hD
    exact endq_v hQ hx hb hr hlocks dX10_putNumber_73 (y_tl_470_4, k_o0r70_5) ⟨hp70_6, (show x_tl_4.toInt + 1 ≤ y_tl_470_4.toInt ∧ y_tl_470_4.toInt ≤ x_tl_4.toInt + 2 by have q0 := FF.out hp49_7; have q1 := FF.out hp70_7; omega), (show -2048 ≤ v1.toInt ∧ v1.toInt ≤ 2047 → y_tl_470_4.toInt = x_tl_4.toInt + 1 by have q0 := FF.out t4_2; have q1 := (show (-2048 : Int32).toInt = -2048 from by decide); omega), (show v1.toInt < -2048 ∨ 2047 < v1.toInt → y_tl_470_4.toInt = x_tl_4.toInt + 2 by have q0 := FF.out hp49_7; have q1 := FF.out hp70_7; omega)⟩ hP hD hS [0, 1, 2] rfl (by decide) rfl (Nat.le_of_ble_eq_true rfl) (Nat.le_of_ble_eq_true rfl)
  · have t4_2 := FF.mk (i_nlt c4_1)
    have r4_3 : rg v1 (-2048) 2147483647 := rg_leB t4_2 (show rg ((-2048) : Int32) (-2048) (-2048) from rg_l (by decide)) (rg_any v1) (by decide)
    refine lv_iload_n hx hb dX10_putNumber_7 rfl (lv_at hl 2 rfl) ?_
    refine lv_sipush (v := 2047) hx hb dX10_putNumber_8 (by decide) ?_
    refine lv_icmp_gt (tgt := 31) hx hb dX10_putNumber_11 (by decide) (fun c11_1 => ?_) (fun c11_1 => ?_)
    · have t11_2 := FF.mk (i_lt c11_1)
      have r11_3 : rg v1 2048 2147483647 := rg_ltB t11_2 (show rg (2047 : Int32) 2047 2047 from rg_l (by decide)) r4_3 (by decide)
      refine lv_aload_n hx hb dX10_putNumber_31 rfl (lv_at hl 0 rfl) ?_
      refine lv_iload_n hx hb dX10_putNumber_32 rfl (lv_at hl 2 rfl) ?_
      refine lv_sipush (v := 2048) hx hb dX10_putNumber_33 (by decide) ?_
      refine lv_iadd hx hb dX10_putNumber_36 ?_
      refine lv_topi (fun z36_1 ez36_1 => ?_)
      refine lv_sipush (v := (-4096)) hx hb dX10_putNumber_37 (by decide) ?_
      refine lv_iand hx hb dX10_putNumber_40 ?_
      refine lv_topi (fun z40_1 ez40_1 => ?_)
      refine lv_iload_n hx hb dX10_putNumber_41 rfl (lv_at hl 1 rfl) ?_
      refine lv_bipush (v := 7) hx hb dX10_putNumber_42 (by decide) ?_
      refine lv_ishl hx hb dX10_putNumber_44 ?_
      refine lv_topi (fun z44_1 ez44_1 => ?_)
      refine lv_ior hx hb dX10_putNumber_45 ?_
      refine lv_topi (fun z45_1 ez45_1 => ?_)
      refine lv_bipush (v := 55) hx hb dX10_putNumber_46 (by decide) ?_
      refine lv_ior hx hb dX10_putNumber_48 ?_
      refine lv_topi (fun z48_1 ez48_1 => ?_)
      refine go_v (k1 := 0) (n1 := 0) (wr := []) [0, 1, 2] [] (rn_V (As := [.int z48_1]) (rest := []) (c_X10_put l D ct tl z48_1 tls o0 p0 x_tl_3 x_tl_4 o0r x_o0_1 g_o0r h_x_tl_3 (rg_w h_x_tl_4 (by decide)) h_x_o0_1 _) (cb_of (n := 1) hn mw_1319 mw_10 mw_1316 mhX10_put ⟨(Nat.le_of_ble_eq_true rfl), (Nat.le_of_ble_eq_true rfl)⟩) hx hb hml hown hn hK hSK hZ hS mw_1318 mw_s149 (ci := 10) (q0 := 0) rfl rfl rfl rfl hl.1 (Nat.le_of_ble_eq_true rfl) dX10_putNumber_49 ⟨(Nat.le_of_ble_eq_true rfl), (Nat.le_of_ble_eq_true rfl)⟩) hP hD hS hA rfl rfl (by decide) (by decide) (by decide) (Nat.le_of_ble_eq_true rfl) (Nat.le_of_ble_eq_true rfl) (fun u49_2 H locs hp49_3 hP hD hS => ?_)
      obtain ⟨y_tl_449_4, k_o0r49_5⟩ := u49_2
      obtain ⟨hp49_6, hp49_7⟩ := hp49_3
      have hp49_6 : rg y_tl_449_4 1 1000001 := hp49_6
      replace hp49_7 : FF (y_tl_449_4.toInt = x_tl_4.toInt + 1) := hp49_7
      have hP : va_P D vwCl [(tl, .inr (10, [.ref tls, .ref o0, .ref p0, .int x_tl_3, .int y_tl_449_4])), (o0, .inr (5, [.ref o0r, .int x_o0_1])), (o0r, .inl (ct 1, 60000, .inl k_o0r49_5))] _ := hP
      have hD : va_D A [(tl, .inr (10, [.ref tls, .ref o0, .ref p0, .int x_tl_3, .int y_tl_449_4])), (o0, .inr (5, [.ref o0r, .int x_o0_1])), (o0r, .inl (ct 1, 60000, .inl k_o0r49_5))] := hD
      refine lv_aload_n hx hb dX10_putNumber_52 rfl (lv_at hl 0 rfl) ?_
      refine lv_iload_n hx hb dX10_putNumber_53 rfl (lv_at hl 2 rfl) ?_
      refine lv_bipush (v := 20) hx hb dX10_putNumber_54 (by decide) ?_
      refine lv_ishl hx hb dX10_putNumber_56 ?_
      refine lv_topi (fun z56_1 ez56_1 => ?_)
      refine lv_iload_n hx hb dX10_putNumber_57 rfl (lv_at hl 1 rfl) ?_
      refine lv_bipush (v := 15) hx hb dX10_putNumber_58 (by decide) ?_
      refine lv_ishl hx hb dX10_putNumber_60 ?_
      refine lv_topi (fun z60_1 ez60_1 => ?_)
      refine lv_ior hx hb dX10_putNumber_61 ?_
      refine lv_topi (fun z61_1 ez61_1 => ?_)
      refine lv_iload_n hx hb dX10_putNumber_62 rfl (lv_at hl 1 rfl) ?_
      refine lv_bipush (v := 7) hx hb dX10_putNumber_63 (by decide) ?_
      refine lv_ishl hx hb dX10_putNumber_65 ?_
      refine lv_topi (fun z65_1 ez65_1 => ?_)
      refine lv_ior hx hb dX10_putNumber_66 ?_
      refine lv_topi (fun z66_1 ez66_1 => ?_)
      refine lv_bipush (v := 27) hx hb dX10_putNumber_67 (by decide) ?_
      refine lv_ior hx hb dX10_putNumber_69 ?_
      refine lv_topi (fun z69_1 ez69_1 => ?_)
      refine go_v (k1 := 0) (n1 := 0) (wr := []) [0, 1, 2] [] (rn_V (As := [.int z69_1]) (rest := []) (c_X10_put l D ct tl z69_1 tls o0 p0 x_tl_3 y_tl_449_4 o0r x_o0_1 k_o0r49_5 h_x_tl_3 (rg_of (show 0 ≤ y_tl_449_4.toInt ∧ y_tl_449_4.toInt ≤ 1000000 by have q0 := hp49_6.1; have q1 := h_x_tl_4.2; have q2 := FF.out hp49_7; omega)) h_x_o0_1 _) (cb_of (n := 1) hn mw_1319 mw_10 mw_1316 mhX10_put ⟨(Nat.le_of_ble_eq_true rfl), (Nat.le_of_ble_eq_true rfl)⟩) hx hb hml hown hn hK hSK hZ hS mw_1318 mw_s149 (ci := 10) (q0 := 0) rfl rfl rfl rfl hl.1 (Nat.le_of_ble_eq_true rfl) dX10_putNumber_70 ⟨(Nat.le_of_ble_eq_true rfl), (Nat.le_of_ble_eq_true rfl)⟩) hP hD hS hA rfl rfl (by decide) (by decide) (by decide) (Nat.le_of_ble_eq_true rfl) (Nat.le_of_ble_eq_true rfl) (fun u70_2 H locs hp70_3 hP hD hS => ?_)
      obtain ⟨y_tl_470_4, k_o0r70_5⟩ := u70_2
      obtain ⟨hp70_6, hp70_7⟩ := hp70_3
      have hp70_6 : rg y_tl_470_4 1 1000001 := hp70_6
      replace hp70_7 : FF (y_tl_470_4.toInt = y_tl_449_4.toInt + 1) := hp70_7
      have hP : va_P D vwCl [(tl, .inr (10, [.ref tls, .ref o0, .ref p0, .int x_tl_3, .int y_tl_470_4])), (o0, .inr (5, [.ref o0r, .int x_o0_1])), (o0r, .inl (ct 1, 60000, .inl k_o0r70_5))] _ := hP
      have hD : va_D A [(tl, .inr (10, [.ref tls, .ref o0, .ref p0, .int x_tl_3, .int y_tl_470_4])), (o0, .inr (5, [.ref o0r, .int x_o0_1])), (o0r, .inl (ct 1, 60000, .inl k_o0r70_5))] := hD
      exact endq_v hQ hx hb hr hlocks dX10_putNumber_73 (y_tl_470_4, k_o0r70_5) ⟨hp70_6, (show x_tl_4.toInt + 1 ≤ y_tl_470_4.toInt ∧ y_tl_470_4.toInt ≤ x_tl_4.toInt + 2 by have q0 := FF.out hp49_7; have q1 := FF.out hp70_7; omega), (show -2048 ≤ v1.toInt ∧ v1.toInt ≤ 2047 → y_tl_470_4.toInt = x_tl_4.toInt + 1 by have q0 := FF.out t11_2; have q1 := (show (2047 : Int32).toInt = 2047 from by decide); omega), (show v1.toInt < -2048 ∨ 2047 < v1.toInt → y_tl_470_4.toInt = x_tl_4.toInt + 2 by have q0 := FF.out hp49_7; have q1 := FF.out hp70_7; omega)⟩ hP hD hS [0, 1, 2] rfl (by decide) rfl (Nat.le_of_ble_eq_true rfl) (Nat.le_of_ble_eq_true rfl)
    · have t11_2 := FF.mk (i_nlt c11_1)
      have r11_3 : rg v1 (-2048) 2047 := rg_leA t11_2 r4_3 (show rg (2047 : Int32) 2047 2047 from rg_l (by decide)) (by decide)
      refine lv_aload_n hx hb dX10_putNumber_14 rfl (lv_at hl 0 rfl) ?_
      refine lv_iload_n hx hb dX10_putNumber_15 rfl (lv_at hl 2 rfl) ?_
      refine lv_bipush (v := 20) hx hb dX10_putNumber_16 (by decide) ?_
      refine lv_ishl hx hb dX10_putNumber_18 ?_
      refine lv_topi (fun z18_1 ez18_1 => ?_)
      refine lv_iload_n hx hb dX10_putNumber_19 rfl (lv_at hl 1 rfl) ?_
      refine lv_bipush (v := 7) hx hb dX10_putNumber_20 (by decide) ?_
      refine lv_ishl hx hb dX10_putNumber_22 ?_
      refine lv_topi (fun z22_1 ez22_1 => ?_)
      refine lv_ior hx hb dX10_putNumber_23 ?_
      refine lv_topi (fun z23_1 ez23_1 => ?_)
      refine lv_bipush (v := 19) hx hb dX10_putNumber_24 (by decide) ?_
      refine lv_ior hx hb dX10_putNumber_26 ?_
      refine lv_topi (fun z26_1 ez26_1 => ?_)
      refine go_v (k1 := 0) (n1 := 0) (wr := []) [0, 1, 2] [] (rn_V (As := [.int z26_1]) (rest := []) (c_X10_put l D ct tl z26_1 tls o0 p0 x_tl_3 x_tl_4 o0r x_o0_1 g_o0r h_x_tl_3 (rg_w h_x_tl_4 (by decide)) h_x_o0_1 _) (cb_of (n := 1) hn mw_1319 mw_10 mw_1316 mhX10_put ⟨(Nat.le_of_ble_eq_true rfl), (Nat.le_of_ble_eq_true rfl)⟩) hx hb hml hown hn hK hSK hZ hS mw_1318 mw_s149 (ci := 10) (q0 := 0) rfl rfl rfl rfl hl.1 (Nat.le_of_ble_eq_true rfl) dX10_putNumber_27 ⟨(Nat.le_of_ble_eq_true rfl), (Nat.le_of_ble_eq_true rfl)⟩) hP hD hS hA rfl rfl (by decide) (by decide) (by decide) (Nat.le_of_ble_eq_true rfl) (Nat.le_of_ble_eq_true rfl) (fun u27_2 H locs hp27_3 hP hD hS => ?_)
      obtain ⟨y_tl_427_4, k_o0r27_5⟩ := u27_2
      obtain ⟨hp27_6, hp27_7⟩ := hp27_3
      have hp27_6 : rg y_tl_427_4 1 1000001 := hp27_6
      replace hp27_7 : FF (y_tl_427_4.toInt = x_tl_4.toInt + 1) := hp27_7
      have hP : va_P D vwCl [(tl, .inr (10, [.ref tls, .ref o0, .ref p0, .int x_tl_3, .int y_tl_427_4])), (o0, .inr (5, [.ref o0r, .int x_o0_1])), (o0r, .inl (ct 1, 60000, .inl k_o0r27_5))] _ := hP
      have hD : va_D A [(tl, .inr (10, [.ref tls, .ref o0, .ref p0, .int x_tl_3, .int y_tl_427_4])), (o0, .inr (5, [.ref o0r, .int x_o0_1])), (o0r, .inl (ct 1, 60000, .inl k_o0r27_5))] := hD
      exact endq_v hQ hx hb hr hlocks dX10_putNumber_30 (y_tl_427_4, k_o0r27_5) ⟨hp27_6, (show x_tl_4.toInt + 1 ≤ y_tl_427_4.toInt ∧ y_tl_427_4.toInt ≤ x_tl_4.toInt + 2 by have q0 := FF.out hp27_7; omega), (show -2048 ≤ v1.toInt ∧ v1.toInt ≤ 2047 → y_tl_427_4.toInt = x_tl_4.toInt + 1 by have q0 := FF.out hp27_7; omega), (show v1.toInt < -2048 ∨ 2047 < v1.toInt → y_tl_427_4.toInt = x_tl_4.toInt + 2 by have q0 := r11_3.1; have q1 := r11_3.2; omega)⟩ hP hD hS [0, 1, 2] rfl (by decide) rfl (Nat.le_of_ble_eq_true rfl) (Nat.le_of_ble_eq_true rfl)
set_option maxHeartbeats 2000000 in
theorem c_X10_turnDivision_w (l : Launch) (D : va_G) (ct : Nat → ClassId) (tl : Nat) (v0 : Int32) (v1 : Int32) (v2 : Int32) (tls : Nat) (o0 : Nat) (p0 : Nat) (x_tl_3 : Int32) (x_tl_4 : Int32) (o0r : Nat) (x_o0_1 : Int32) (g_o0r : Nat → Int32) (h_v0 : rg v0 0 1) (h_x_tl_3 : rg x_tl_3 0 1) (h_x_tl_4 : rg x_tl_4 0 999900) (h_x_o0_1 : rg x_o0_1 0 60000) : KV (S := Int32 × (Nat → Int32)) l yX10_turnDivision cX10_turnDivision 5 none 3 67 D ct [.ref tl, .int v0, .int v1, .int v2] [(tl, .inr (10, [.ref tls, .ref o0, .ref p0, .int x_tl_3, .int x_tl_4])), (o0, .inr (5, [.ref o0r, .int x_o0_1])), (o0r, .inl (ct 1, 60000, .inl g_o0r))] 0 0 (fun (u : Int32 × (Nat → Int32)) => match u with | (y_tl_4, k_o0r) => rg y_tl_4 1 1000001 ∧ (x_tl_4.toInt + 4 ≤ y_tl_4.toInt ∧ y_tl_4.toInt ≤ x_tl_4.toInt + 5) ∧ (v0.toInt = 1 → y_tl_4.toInt = x_tl_4.toInt + 4) ∧ (v0.toInt = 0 → y_tl_4.toInt = x_tl_4.toInt + 5)) (fun (u : Int32 × (Nat → Int32)) => match u with | (y_tl_4, k_o0r) => [(tl, .inr (10, [.ref tls, .ref o0, .ref p0, .int x_tl_3, .int y_tl_4])), (o0, .inr (5, [.ref o0r, .int x_o0_1])), (o0r, .inl (ct 1, 60000, .inl k_o0r))]) := by
  refine KVq_of (by decide) (Nat.le_of_ble_eq_true rfl) (fun p e s m below meth c A Q C0 hA H locs hS hP hD hQ ls hl => ?_)
  obtain ⟨hx, hb, hr, hown, hin, hml, hlocks, hn, hK, hZ, hSK⟩ := C0
  have hl : lv_has ls 5 [(0, .ref tl), (1, .int v0), (2, .int v1), (3, .int v2)] := hl
  refine lv_iload_n hx hb dX10_turnDivision_0 rfl (lv_at hl 3 rfl) ?_
  refine lv_istore (lv' := [(4, .int v2), (0, .ref tl), (1, .int v0), (2, .int v1), (3, .int v2)]) hx hb dX10_turnDivision_1 hl (by decide) rfl (fun ls hl => ?_)
  refine lv_iload_n hx hb dX10_turnDivision_3 rfl (lv_at hl 2 rfl) ?_
  refine lv_if_ne (tgt := 22) hx hb dX10_turnDivision_4 (by decide) (fun c4_1 => ?_) (fun c4_1 => ?_)
  · have t4_2 := FF.mk (i_ne c4_1)
    have r4_3 : rg v0 1 1 := rg_neAl t4_2 h_v0 (show rg (0 : Int32) 0 0 from rg_l (by decide)) (by decide)
    refine lv_aload_n hx hb dX10_turnDivision_22 rfl (lv_at hl 1 rfl) ?_
    refine lv_iconst (v := 0) hx hb dX10_turnDivision_23 (by decide) ?_
    refine lv_iload hx hb dX10_turnDivision_24 (lv_at hl 0 rfl) ?_
    refine lv_iconst (v := 0) hx hb dX10_turnDivision_26 (by decide) ?_
    refine lv_bipush (v := 12) hx hb dX10_turnDivision_27 (by decide) ?_
    refine go_v (k1 := 0) (n1 := 0) (wr := []) [0, 1, 2] [] (rn_V (As := [.int 0, .int v2, .int 0, .int 12]) (rest := []) (c_X10_putBranch l D ct tl (0 : Int32) v2 (0 : Int32) (12 : Int32) tls o0 p0 x_tl_3 x_tl_4 o0r x_o0_1 g_o0r h_x_tl_3 (rg_w h_x_tl_4 (by decide)) h_x_o0_1 _) (cb_of (n := 4) hn mw_1345 mw_10 mw_1342 mhX10_putBranch ⟨(Nat.le_of_ble_eq_true rfl), (Nat.le_of_ble_eq_true rfl)⟩) hx hb hml hown hn hK hSK hZ hS mw_1344 mw_s155 (ci := 10) (q0 := 0) rfl rfl rfl rfl hl.1 (Nat.le_of_ble_eq_true rfl) dX10_turnDivision_29 ⟨(Nat.le_of_ble_eq_true rfl), (Nat.le_of_ble_eq_true rfl)⟩) hP hD hS hA rfl rfl (by decide) (by decide) (by decide) (Nat.le_of_ble_eq_true rfl) (Nat.le_of_ble_eq_true rfl) (fun u29_2 H locs hp29_3 hP hD hS => ?_)
    obtain ⟨y_tl_429_4, k_o0r29_5⟩ := u29_2
    obtain ⟨hp29_6, hp29_7⟩ := hp29_3
    have hp29_6 : rg y_tl_429_4 1 1000001 := hp29_6
    replace hp29_7 : FF (y_tl_429_4.toInt = x_tl_4.toInt + 1) := hp29_7
    have hP : va_P D vwCl [(tl, .inr (10, [.ref tls, .ref o0, .ref p0, .int x_tl_3, .int y_tl_429_4])), (o0, .inr (5, [.ref o0r, .int x_o0_1])), (o0r, .inl (ct 1, 60000, .inl k_o0r29_5))] _ := hP
    have hD : va_D A [(tl, .inr (10, [.ref tls, .ref o0, .ref p0, .int x_tl_3, .int y_tl_429_4])), (o0, .inr (5, [.ref o0r, .int x_o0_1])), (o0r, .inl (ct 1, 60000, .inl k_o0r29_5))] := hD
    refine lv_aload_n hx hb dX10_turnDivision_32 rfl (lv_at hl 1 rfl) ?_
    refine lv_iload_n hx hb dX10_turnDivision_33 rfl (lv_at hl 2 rfl) ?_
    have b44 : ∀ (j44_l4 : Int32) (j44_s0 : Int32) (H : Heap) (locs : List Loc) (ls : Array Slot), (rg j44_s0 51 59) → lv_has ls 5 [(0, .ref tl), (2, .int v1), (4, .int j44_l4)] → va_P D vwCl [(tl, .inr (10, [.ref tls, .ref o0, .ref p0, .int x_tl_3, .int y_tl_429_4])), (o0, .inr (5, [.ref o0r, .int x_o0_1])), (o0r, .inl (ct 1, 60000, .inl k_o0r29_5))] H → va_D A [(tl, .inr (10, [.ref tls, .ref o0, .ref p0, .int x_tl_3, .int y_tl_429_4])), (o0, .inr (5, [.ref o0r, .int x_o0_1])), (o0r, .inl (ct 1, 60000, .inl k_o0r29_5))] → va_S A s.heap H locs → W p l e ({ frames := 3, cells := 0, slots := 0, locals := 67 }) s m [.ref tl, .int v0, .int v1, .int v2].toArray below meth c H locs 0 0 Q (F0 m 44 ls [.int j44_s0, .ref tl]) := by
      intro j44_l4 j44_s0 H locs ls r44_1001 hl hP hD hS
      refine lv_iconst (v := 1) hx hb dX10_turnDivision_44 (by decide) ?_
      refine lv_iconst (v := 5) hx hb dX10_turnDivision_45 (by decide) ?_
      refine lv_iload_n hx hb dX10_turnDivision_46 rfl (lv_at hl 1 rfl) ?_
      refine lv_iload_n hx hb dX10_turnDivision_47 rfl (lv_at hl 1 rfl) ?_
      refine lv_iload hx hb dX10_turnDivision_48 (lv_at hl 2 rfl) ?_
      refine go_v (k1 := 0) (n1 := 0) (wr := []) [0, 1, 2] [] (rn_V (As := [.int j44_s0, .int 1, .int 5, .int v1, .int v1, .int j44_l4]) (rest := []) (c_X10_putOp l D ct tl j44_s0 (1 : Int32) (5 : Int32) v1 v1 j44_l4 tls o0 p0 x_tl_3 y_tl_429_4 o0r x_o0_1 k_o0r29_5 h_x_tl_3 (rg_of (show 0 ≤ y_tl_429_4.toInt ∧ y_tl_429_4.toInt ≤ 999990 by have q0 := hp29_6.1; have q1 := h_x_tl_4.2; have q2 := FF.out hp29_7; omega)) h_x_o0_1 _) (cb_of (n := 6) hn mw_1329 mw_10 mw_1326 mhX10_putOp ⟨(Nat.le_of_ble_eq_true rfl), (Nat.le_of_ble_eq_true rfl)⟩) hx hb hml hown hn hK hSK hZ hS mw_1328 mw_s151 (ci := 10) (q0 := 0) rfl rfl rfl rfl hl.1 (Nat.le_of_ble_eq_true rfl) dX10_turnDivision_50 ⟨(Nat.le_of_ble_eq_true rfl), (Nat.le_of_ble_eq_true rfl)⟩) hP hD hS hA rfl rfl (by decide) (by decide) (by decide) (Nat.le_of_ble_eq_true rfl) (Nat.le_of_ble_eq_true rfl) (fun u50_2 H locs hp50_3 hP hD hS => ?_)
      obtain ⟨y_tl_450_4, k_o0r50_5⟩ := u50_2
      obtain ⟨hp50_6, hp50_7⟩ := hp50_3
      have hp50_6 : rg y_tl_450_4 1 1000001 := hp50_6
      replace hp50_7 : FF (y_tl_450_4.toInt = y_tl_429_4.toInt + 1) := hp50_7
      have hP : va_P D vwCl [(tl, .inr (10, [.ref tls, .ref o0, .ref p0, .int x_tl_3, .int y_tl_450_4])), (o0, .inr (5, [.ref o0r, .int x_o0_1])), (o0r, .inl (ct 1, 60000, .inl k_o0r50_5))] _ := hP
      have hD : va_D A [(tl, .inr (10, [.ref tls, .ref o0, .ref p0, .int x_tl_3, .int y_tl_450_4])), (o0, .inr (5, [.ref o0r, .int x_o0_1])), (o0r, .inl (ct 1, 60000, .inl k_o0r50_5))] := hD
      refine lv_aload_n hx hb dX10_turnDivision_53 rfl (lv_at hl 0 rfl) ?_
      refine lv_bipush (v := 8) hx hb dX10_turnDivision_54 (by decide) ?_
      refine go_v (k1 := 0) (n1 := 0) (wr := []) [0, 1, 2] [] (rn_V (As := [.int 8]) (rest := []) (c_X10_putGoing l D ct tl (8 : Int32) tls o0 p0 x_tl_3 y_tl_450_4 o0r x_o0_1 k_o0r50_5 h_x_tl_3 (rg_of (show 0 ≤ y_tl_450_4.toInt ∧ y_tl_450_4.toInt ≤ 999990 by have q0 := hp29_6.1; have q1 := h_x_tl_4.2; have q2 := FF.out hp29_7; have q3 := FF.out hp50_7; omega)) h_x_o0_1 _) (cb_of (n := 1) hn mw_1349 mw_10 mw_1346 mhX10_putGoing ⟨(Nat.le_of_ble_eq_true rfl), (Nat.le_of_ble_eq_true rfl)⟩) hx hb hml hown hn hK hSK hZ hS mw_1348 mw_s156 (ci := 10) (q0 := 0) rfl rfl rfl rfl hl.1 (Nat.le_of_ble_eq_true rfl) dX10_turnDivision_56 ⟨(Nat.le_of_ble_eq_true rfl), (Nat.le_of_ble_eq_true rfl)⟩) hP hD hS hA rfl rfl (by decide) (by decide) (by decide) (Nat.le_of_ble_eq_true rfl) (Nat.le_of_ble_eq_true rfl) (fun u56_2 H locs hp56_3 hP hD hS => ?_)
      obtain ⟨y_tl_456_4, k_o0r56_5⟩ := u56_2
      obtain ⟨hp56_6, hp56_7⟩ := hp56_3
      have hp56_6 : rg y_tl_456_4 1 1000001 := hp56_6
      replace hp56_7 : FF (y_tl_456_4.toInt = y_tl_450_4.toInt + 1) := hp56_7
      have hP : va_P D vwCl [(tl, .inr (10, [.ref tls, .ref o0, .ref p0, .int x_tl_3, .int y_tl_456_4])), (o0, .inr (5, [.ref o0r, .int x_o0_1])), (o0r, .inl (ct 1, 60000, .inl k_o0r56_5))] _ := hP
      have hD : va_D A [(tl, .inr (10, [.ref tls, .ref o0, .ref p0, .int x_tl_3, .int y_tl_456_4])), (o0, .inr (5, [.ref o0r, .int x_o0_1])), (o0r, .inl (ct 1, 60000, .inl k_o0r56_5))] := hD
      refine lv_aload_n hx hb dX10_turnDivision_59 rfl (lv_at hl 0 rfl) ?_
      refine lv_iload_n hx hb dX10_turnDivision_60 rfl (lv_at hl 1 rfl) ?_
      refine lv_iconst (v := 0) hx hb dX10_turnDivision_61 (by decide) ?_
      refine lv_iconst (v := 0) hx hb dX10_turnDivision_62 (by decide) ?_
      refine go_v (k1 := 0) (n1 := 0) (wr := []) [0, 1, 2] [] (rn_V (As := [.int v1, .int 0, .int 0]) (rest := []) (c_X10_putAdd l D ct tl v1 (0 : Int32) (0 : Int32) tls o0 p0 x_tl_3 y_tl_456_4 o0r x_o0_1 k_o0r56_5 h_x_tl_3 (rg_of (show 0 ≤ y_tl_456_4.toInt ∧ y_tl_456_4.toInt ≤ 999990 by have q0 := hp50_6.1; have q1 := h_x_tl_4.2; have q2 := FF.out hp29_7; have q3 := FF.out hp50_7; have q4 := FF.out hp56_7; omega)) h_x_o0_1 _) (cb_of (n := 3) hn mw_1325 mw_10 mw_1322 mhX10_putAdd ⟨(Nat.le_of_ble_eq_true rfl), (Nat.le_of_ble_eq_true rfl)⟩) hx hb hml hown hn hK hSK hZ hS mw_1324 mw_s150 (ci := 10) (q0 := 0) rfl rfl rfl rfl hl.1 (Nat.le_of_ble_eq_true rfl) dX10_turnDivision_63 ⟨(Nat.le_of_ble_eq_true rfl), (Nat.le_of_ble_eq_true rfl)⟩) hP hD hS hA rfl rfl (by decide) (by decide) (by decide) (Nat.le_of_ble_eq_true rfl) (Nat.le_of_ble_eq_true rfl) (fun u63_2 H locs hp63_3 hP hD hS => ?_)
      obtain ⟨y_tl_463_4, k_o0r63_5⟩ := u63_2
      obtain ⟨hp63_6, hp63_7⟩ := hp63_3
      have hp63_6 : rg y_tl_463_4 1 1000001 := hp63_6
      replace hp63_7 : FF (y_tl_463_4.toInt = y_tl_456_4.toInt + 1) := hp63_7
      have hP : va_P D vwCl [(tl, .inr (10, [.ref tls, .ref o0, .ref p0, .int x_tl_3, .int y_tl_463_4])), (o0, .inr (5, [.ref o0r, .int x_o0_1])), (o0r, .inl (ct 1, 60000, .inl k_o0r63_5))] _ := hP
      have hD : va_D A [(tl, .inr (10, [.ref tls, .ref o0, .ref p0, .int x_tl_3, .int y_tl_463_4])), (o0, .inr (5, [.ref o0r, .int x_o0_1])), (o0r, .inl (ct 1, 60000, .inl k_o0r63_5))] := hD
      exact endq_v hQ hx hb hr hlocks dX10_turnDivision_66 (y_tl_463_4, k_o0r63_5) ⟨hp63_6, (show x_tl_4.toInt + 4 ≤ y_tl_463_4.toInt ∧ y_tl_463_4.toInt ≤ x_tl_4.toInt + 5 by have q0 := FF.out hp29_7; have q1 := FF.out hp50_7; have q2 := FF.out hp56_7; have q3 := FF.out hp63_7; omega), (show v0.toInt = 1 → y_tl_463_4.toInt = x_tl_4.toInt + 4 by have q0 := FF.out hp29_7; have q1 := FF.out hp50_7; have q2 := FF.out hp56_7; have q3 := FF.out hp63_7; omega), (show v0.toInt = 0 → y_tl_463_4.toInt = x_tl_4.toInt + 5 by have q0 := r4_3.1; omega)⟩ hP hD hS [0, 1, 2] rfl (by decide) rfl (Nat.le_of_ble_eq_true rfl) (Nat.le_of_ble_eq_true rfl)
    refine lv_if_eq (tgt := 42) hx hb dX10_turnDivision_34 (by decide) (fun c34_1 => ?_) (fun c34_1 => ?_)
    · exact absurd (i_eq c34_1) (rg_eqX r4_3 (show rg (0 : Int32) 0 0 from rg_l (by decide)) (by decide))
    · have t34_2 := FF.mk (i_ne c34_1)
      refine lv_bipush (v := 51) hx hb dX10_turnDivision_37 (by decide) ?_
      refine lv_goto (tgt := 44) hx hb dX10_turnDivision_39 (by decide) ?_
      exact b44 v2 (51 : Int32) H locs ls (rg_w (show rg (51 : Int32) 51 51 from rg_l (by decide)) (by decide)) (lv_sub hl [1, 3, 0] rfl) hP hD hS
  · have t4_2 := FF.mk (i_eq c4_1)
    have r4_3 : rg v0 0 0 := rg_eqA t4_2 h_v0 (show rg (0 : Int32) 0 0 from rg_l (by decide)) (by decide)
    refine lv_aload_n hx hb dX10_turnDivision_7 rfl (lv_at hl 1 rfl) ?_
    refine lv_bipush (v := 27) hx hb dX10_turnDivision_8 (by decide) ?_
    refine lv_iconst (v := 0) hx hb dX10_turnDivision_10 (by decide) ?_
    refine lv_bipush (v := 6) hx hb dX10_turnDivision_11 (by decide) ?_
    refine lv_iload_n hx hb dX10_turnDivision_13 rfl (lv_at hl 4 rfl) ?_
    refine lv_iconst (v := 0) hx hb dX10_turnDivision_14 (by decide) ?_
    refine go_v (k1 := 0) (n1 := 0) (wr := []) [0, 1, 2] [] (rn_V (As := [.int 27, .int 0, .int 6, .int v2, .int 0]) (rest := []) (c_X10_putImm l D ct tl (27 : Int32) (0 : Int32) (6 : Int32) v2 (0 : Int32) tls o0 p0 x_tl_3 x_tl_4 o0r x_o0_1 g_o0r h_x_tl_3 (rg_w h_x_tl_4 (by decide)) h_x_o0_1 _) (cb_of (n := 5) hn mw_1341 mw_10 mw_1338 mhX10_putImm ⟨(Nat.le_of_ble_eq_true rfl), (Nat.le_of_ble_eq_true rfl)⟩) hx hb hml hown hn hK hSK hZ hS mw_1340 mw_s154 (ci := 10) (q0 := 0) rfl rfl rfl rfl hl.1 (Nat.le_of_ble_eq_true rfl) dX10_turnDivision_15 ⟨(Nat.le_of_ble_eq_true rfl), (Nat.le_of_ble_eq_true rfl)⟩) hP hD hS hA rfl rfl (by decide) (by decide) (by decide) (Nat.le_of_ble_eq_true rfl) (Nat.le_of_ble_eq_true rfl) (fun u15_2 H locs hp15_3 hP hD hS => ?_)
    obtain ⟨y_tl_415_4, k_o0r15_5⟩ := u15_2
    obtain ⟨hp15_6, hp15_7⟩ := hp15_3
    have hp15_6 : rg y_tl_415_4 1 1000001 := hp15_6
    replace hp15_7 : FF (y_tl_415_4.toInt = x_tl_4.toInt + 1) := hp15_7
    have hP : va_P D vwCl [(tl, .inr (10, [.ref tls, .ref o0, .ref p0, .int x_tl_3, .int y_tl_415_4])), (o0, .inr (5, [.ref o0r, .int x_o0_1])), (o0r, .inl (ct 1, 60000, .inl k_o0r15_5))] _ := hP
    have hD : va_D A [(tl, .inr (10, [.ref tls, .ref o0, .ref p0, .int x_tl_3, .int y_tl_415_4])), (o0, .inr (5, [.ref o0r, .int x_o0_1])), (o0r, .inl (ct 1, 60000, .inl k_o0r15_5))] := hD
    refine lv_bipush (v := 6) hx hb dX10_turnDivision_18 (by decide) ?_
    refine lv_istore (lv' := [(4, .int 6), (0, .ref tl), (1, .int v0), (2, .int v1), (3, .int v2)]) hx hb dX10_turnDivision_20 hl (by decide) rfl (fun ls hl => ?_)
    refine lv_aload_n hx hb dX10_turnDivision_22 rfl (lv_at hl 1 rfl) ?_
    refine lv_iconst (v := 0) hx hb dX10_turnDivision_23 (by decide) ?_
    refine lv_iload hx hb dX10_turnDivision_24 (lv_at hl 0 rfl) ?_
    refine lv_iconst (v := 0) hx hb dX10_turnDivision_26 (by decide) ?_
    refine lv_bipush (v := 12) hx hb dX10_turnDivision_27 (by decide) ?_
    refine go_v (k1 := 0) (n1 := 0) (wr := []) [0, 1, 2] [] (rn_V (As := [.int 0, .int 6, .int 0, .int 12]) (rest := []) (c_X10_putBranch l D ct tl (0 : Int32) (6 : Int32) (0 : Int32) (12 : Int32) tls o0 p0 x_tl_3 y_tl_415_4 o0r x_o0_1 k_o0r15_5 h_x_tl_3 (rg_of (show 0 ≤ y_tl_415_4.toInt ∧ y_tl_415_4.toInt ≤ 999990 by have q0 := hp15_6.1; have q1 := h_x_tl_4.2; have q2 := FF.out hp15_7; omega)) h_x_o0_1 _) (cb_of (n := 4) hn mw_1345 mw_10 mw_1342 mhX10_putBranch ⟨(Nat.le_of_ble_eq_true rfl), (Nat.le_of_ble_eq_true rfl)⟩) hx hb hml hown hn hK hSK hZ hS mw_1344 mw_s155 (ci := 10) (q0 := 0) rfl rfl rfl rfl hl.1 (Nat.le_of_ble_eq_true rfl) dX10_turnDivision_29 ⟨(Nat.le_of_ble_eq_true rfl), (Nat.le_of_ble_eq_true rfl)⟩) hP hD hS hA rfl rfl (by decide) (by decide) (by decide) (Nat.le_of_ble_eq_true rfl) (Nat.le_of_ble_eq_true rfl) (fun u29_2 H locs hp29_3 hP hD hS => ?_)
    obtain ⟨y_tl_429_4, k_o0r29_5⟩ := u29_2
    obtain ⟨hp29_6, hp29_7⟩ := hp29_3
    have hp29_6 : rg y_tl_429_4 1 1000001 := hp29_6
    replace hp29_7 : FF (y_tl_429_4.toInt = y_tl_415_4.toInt + 1) := hp29_7
    have hP : va_P D vwCl [(tl, .inr (10, [.ref tls, .ref o0, .ref p0, .int x_tl_3, .int y_tl_429_4])), (o0, .inr (5, [.ref o0r, .int x_o0_1])), (o0r, .inl (ct 1, 60000, .inl k_o0r29_5))] _ := hP
    have hD : va_D A [(tl, .inr (10, [.ref tls, .ref o0, .ref p0, .int x_tl_3, .int y_tl_429_4])), (o0, .inr (5, [.ref o0r, .int x_o0_1])), (o0r, .inl (ct 1, 60000, .inl k_o0r29_5))] := hD
    refine lv_aload_n hx hb dX10_turnDivision_32 rfl (lv_at hl 1 rfl) ?_
    refine lv_iload_n hx hb dX10_turnDivision_33 rfl (lv_at hl 2 rfl) ?_
    have b44 : ∀ (j44_l4 : Int32) (j44_s0 : Int32) (H : Heap) (locs : List Loc) (ls : Array Slot), (rg j44_s0 51 59) → lv_has ls 5 [(0, .ref tl), (2, .int v1), (4, .int j44_l4)] → va_P D vwCl [(tl, .inr (10, [.ref tls, .ref o0, .ref p0, .int x_tl_3, .int y_tl_429_4])), (o0, .inr (5, [.ref o0r, .int x_o0_1])), (o0r, .inl (ct 1, 60000, .inl k_o0r29_5))] H → va_D A [(tl, .inr (10, [.ref tls, .ref o0, .ref p0, .int x_tl_3, .int y_tl_429_4])), (o0, .inr (5, [.ref o0r, .int x_o0_1])), (o0r, .inl (ct 1, 60000, .inl k_o0r29_5))] → va_S A s.heap H locs → W p l e ({ frames := 3, cells := 0, slots := 0, locals := 67 }) s m [.ref tl, .int v0, .int v1, .int v2].toArray below meth c H locs 0 0 Q (F0 m 44 ls [.int j44_s0, .ref tl]) := by
      intro j44_l4 j44_s0 H locs ls r44_1001 hl hP hD hS
      refine lv_iconst (v := 1) hx hb dX10_turnDivision_44 (by decide) ?_
      refine lv_iconst (v := 5) hx hb dX10_turnDivision_45 (by decide) ?_
      refine lv_iload_n hx hb dX10_turnDivision_46 rfl (lv_at hl 1 rfl) ?_
      refine lv_iload_n hx hb dX10_turnDivision_47 rfl (lv_at hl 1 rfl) ?_
      refine lv_iload hx hb dX10_turnDivision_48 (lv_at hl 2 rfl) ?_
      refine go_v (k1 := 0) (n1 := 0) (wr := []) [0, 1, 2] [] (rn_V (As := [.int j44_s0, .int 1, .int 5, .int v1, .int v1, .int j44_l4]) (rest := []) (c_X10_putOp l D ct tl j44_s0 (1 : Int32) (5 : Int32) v1 v1 j44_l4 tls o0 p0 x_tl_3 y_tl_429_4 o0r x_o0_1 k_o0r29_5 h_x_tl_3 (rg_of (show 0 ≤ y_tl_429_4.toInt ∧ y_tl_429_4.toInt ≤ 999990 by have q0 := hp15_6.1; have q1 := h_x_tl_4.2; have q2 := FF.out hp15_7; have q3 := FF.out hp29_7; omega)) h_x_o0_1 _) (cb_of (n := 6) hn mw_1329 mw_10 mw_1326 mhX10_putOp ⟨(Nat.le_of_ble_eq_true rfl), (Nat.le_of_ble_eq_true rfl)⟩) hx hb hml hown hn hK hSK hZ hS mw_1328 mw_s151 (ci := 10) (q0 := 0) rfl rfl rfl rfl hl.1 (Nat.le_of_ble_eq_true rfl) dX10_turnDivision_50 ⟨(Nat.le_of_ble_eq_true rfl), (Nat.le_of_ble_eq_true rfl)⟩) hP hD hS hA rfl rfl (by decide) (by decide) (by decide) (Nat.le_of_ble_eq_true rfl) (Nat.le_of_ble_eq_true rfl) (fun u50_2 H locs hp50_3 hP hD hS => ?_)
      obtain ⟨y_tl_450_4, k_o0r50_5⟩ := u50_2
      obtain ⟨hp50_6, hp50_7⟩ := hp50_3
      have hp50_6 : rg y_tl_450_4 1 1000001 := hp50_6
      replace hp50_7 : FF (y_tl_450_4.toInt = y_tl_429_4.toInt + 1) := hp50_7
      have hP : va_P D vwCl [(tl, .inr (10, [.ref tls, .ref o0, .ref p0, .int x_tl_3, .int y_tl_450_4])), (o0, .inr (5, [.ref o0r, .int x_o0_1])), (o0r, .inl (ct 1, 60000, .inl k_o0r50_5))] _ := hP
      have hD : va_D A [(tl, .inr (10, [.ref tls, .ref o0, .ref p0, .int x_tl_3, .int y_tl_450_4])), (o0, .inr (5, [.ref o0r, .int x_o0_1])), (o0r, .inl (ct 1, 60000, .inl k_o0r50_5))] := hD
      refine lv_aload_n hx hb dX10_turnDivision_53 rfl (lv_at hl 0 rfl) ?_
      refine lv_bipush (v := 8) hx hb dX10_turnDivision_54 (by decide) ?_
      refine go_v (k1 := 0) (n1 := 0) (wr := []) [0, 1, 2] [] (rn_V (As := [.int 8]) (rest := []) (c_X10_putGoing l D ct tl (8 : Int32) tls o0 p0 x_tl_3 y_tl_450_4 o0r x_o0_1 k_o0r50_5 h_x_tl_3 (rg_of (show 0 ≤ y_tl_450_4.toInt ∧ y_tl_450_4.toInt ≤ 999990 by have q0 := hp29_6.1; have q1 := h_x_tl_4.2; have q2 := FF.out hp15_7; have q3 := FF.out hp29_7; have q4 := FF.out hp50_7; omega)) h_x_o0_1 _) (cb_of (n := 1) hn mw_1349 mw_10 mw_1346 mhX10_putGoing ⟨(Nat.le_of_ble_eq_true rfl), (Nat.le_of_ble_eq_true rfl)⟩) hx hb hml hown hn hK hSK hZ hS mw_1348 mw_s156 (ci := 10) (q0 := 0) rfl rfl rfl rfl hl.1 (Nat.le_of_ble_eq_true rfl) dX10_turnDivision_56 ⟨(Nat.le_of_ble_eq_true rfl), (Nat.le_of_ble_eq_true rfl)⟩) hP hD hS hA rfl rfl (by decide) (by decide) (by decide) (Nat.le_of_ble_eq_true rfl) (Nat.le_of_ble_eq_true rfl) (fun u56_2 H locs hp56_3 hP hD hS => ?_)
      obtain ⟨y_tl_456_4, k_o0r56_5⟩ := u56_2
      obtain ⟨hp56_6, hp56_7⟩ := hp56_3
      have hp56_6 : rg y_tl_456_4 1 1000001 := hp56_6
      replace hp56_7 : FF (y_tl_456_4.toInt = y_tl_450_4.toInt + 1) := hp56_7
      have hP : va_P D vwCl [(tl, .inr (10, [.ref tls, .ref o0, .ref p0, .int x_tl_3, .int y_tl_456_4])), (o0, .inr (5, [.ref o0r, .int x_o0_1])), (o0r, .inl (ct 1, 60000, .inl k_o0r56_5))] _ := hP
      have hD : va_D A [(tl, .inr (10, [.ref tls, .ref o0, .ref p0, .int x_tl_3, .int y_tl_456_4])), (o0, .inr (5, [.ref o0r, .int x_o0_1])), (o0r, .inl (ct 1, 60000, .inl k_o0r56_5))] := hD
      refine lv_aload_n hx hb dX10_turnDivision_59 rfl (lv_at hl 0 rfl) ?_
      refine lv_iload_n hx hb dX10_turnDivision_60 rfl (lv_at hl 1 rfl) ?_
      refine lv_iconst (v := 0) hx hb dX10_turnDivision_61 (by decide) ?_
      refine lv_iconst (v := 0) hx hb dX10_turnDivision_62 (by decide) ?_
      refine go_v (k1 := 0) (n1 := 0) (wr := []) [0, 1, 2] [] (rn_V (As := [.int v1, .int 0, .int 0]) (rest := []) (c_X10_putAdd l D ct tl v1 (0 : Int32) (0 : Int32) tls o0 p0 x_tl_3 y_tl_456_4 o0r x_o0_1 k_o0r56_5 h_x_tl_3 (rg_of (show 0 ≤ y_tl_456_4.toInt ∧ y_tl_456_4.toInt ≤ 999990 by have q0 := hp50_6.1; have q1 := h_x_tl_4.2; have q2 := FF.out hp15_7; have q3 := FF.out hp29_7; have q4 := FF.out hp50_7; have q5 := FF.out hp56_7; omega)) h_x_o0_1 _) (cb_of (n := 3) hn mw_1325 mw_10 mw_1322 mhX10_putAdd ⟨(Nat.le_of_ble_eq_true rfl), (Nat.le_of_ble_eq_true rfl)⟩) hx hb hml hown hn hK hSK hZ hS mw_1324 mw_s150 (ci := 10) (q0 := 0) rfl rfl rfl rfl hl.1 (Nat.le_of_ble_eq_true rfl) dX10_turnDivision_63 ⟨(Nat.le_of_ble_eq_true rfl), (Nat.le_of_ble_eq_true rfl)⟩) hP hD hS hA rfl rfl (by decide) (by decide) (by decide) (Nat.le_of_ble_eq_true rfl) (Nat.le_of_ble_eq_true rfl) (fun u63_2 H locs hp63_3 hP hD hS => ?_)
      obtain ⟨y_tl_463_4, k_o0r63_5⟩ := u63_2
      obtain ⟨hp63_6, hp63_7⟩ := hp63_3
      have hp63_6 : rg y_tl_463_4 1 1000001 := hp63_6
      replace hp63_7 : FF (y_tl_463_4.toInt = y_tl_456_4.toInt + 1) := hp63_7
      have hP : va_P D vwCl [(tl, .inr (10, [.ref tls, .ref o0, .ref p0, .int x_tl_3, .int y_tl_463_4])), (o0, .inr (5, [.ref o0r, .int x_o0_1])), (o0r, .inl (ct 1, 60000, .inl k_o0r63_5))] _ := hP
      have hD : va_D A [(tl, .inr (10, [.ref tls, .ref o0, .ref p0, .int x_tl_3, .int y_tl_463_4])), (o0, .inr (5, [.ref o0r, .int x_o0_1])), (o0r, .inl (ct 1, 60000, .inl k_o0r63_5))] := hD
      exact endq_v hQ hx hb hr hlocks dX10_turnDivision_66 (y_tl_463_4, k_o0r63_5) ⟨hp63_6, (show x_tl_4.toInt + 4 ≤ y_tl_463_4.toInt ∧ y_tl_463_4.toInt ≤ x_tl_4.toInt + 5 by have q0 := FF.out hp15_7; have q1 := FF.out hp29_7; have q2 := FF.out hp50_7; have q3 := FF.out hp56_7; have q4 := FF.out hp63_7; omega), (show v0.toInt = 1 → y_tl_463_4.toInt = x_tl_4.toInt + 4 by have q0 := r4_3.2; omega), (show v0.toInt = 0 → y_tl_463_4.toInt = x_tl_4.toInt + 5 by have q0 := FF.out hp15_7; have q1 := FF.out hp29_7; have q2 := FF.out hp50_7; have q3 := FF.out hp56_7; have q4 := FF.out hp63_7; omega)⟩ hP hD hS [0, 1, 2] rfl (by decide) rfl (Nat.le_of_ble_eq_true rfl) (Nat.le_of_ble_eq_true rfl)
    refine lv_if_eq (tgt := 42) hx hb dX10_turnDivision_34 (by decide) (fun c34_1 => ?_) (fun c34_1 => ?_)
    · have t34_2 := FF.mk (i_eq c34_1)
      refine lv_bipush (v := 59) hx hb dX10_turnDivision_42 (by decide) ?_
      exact b44 (6 : Int32) (59 : Int32) H locs ls (rg_w (show rg (59 : Int32) 59 59 from rg_l (by decide)) (by decide)) (lv_sub hl [1, 3, 0] rfl) hP hD hS
    · exact absurd (i_ne c34_1) (rg_neX r4_3 (show rg (0 : Int32) 0 0 from rg_l (by decide)) (by decide))
set_option maxHeartbeats 2000000 in
theorem c_X10_putPassing_w (l : Launch) (D : va_G) (ct : Nat → ClassId) (tl : Nat) (v0 : Int32) (v1 : Int32) (v2 : Int32) (tls : Nat) (o0 : Nat) (p0 : Nat) (x_tl_3 : Int32) (x_tl_4 : Int32) (o0r : Nat) (x_o0_1 : Int32) (g_o0r : Nat → Int32) (h_x_tl_3 : rg x_tl_3 0 1) (h_x_tl_4 : rg x_tl_4 0 999900) (h_x_o0_1 : rg x_o0_1 0 60000) : KV (S := Int32 × (Nat → Int32)) l yX10_putPassing cX10_putPassing 4 none 3 67 D ct [.ref tl, .int v0, .int v1, .int v2] [(tl, .inr (10, [.ref tls, .ref o0, .ref p0, .int x_tl_3, .int x_tl_4])), (o0, .inr (5, [.ref o0r, .int x_o0_1])), (o0r, .inl (ct 1, 60000, .inl g_o0r))] 0 0 (fun (u : Int32 × (Nat → Int32)) => match u with | (y_tl_4, k_o0r) => rg y_tl_4 1 1000001 ∧ (x_tl_4.toInt + 1 ≤ y_tl_4.toInt ∧ y_tl_4.toInt ≤ x_tl_4.toInt + 2) ∧ (v0.toInt = 4 → y_tl_4.toInt = x_tl_4.toInt + 2) ∧ (v0.toInt ≠ 4 → y_tl_4.toInt = x_tl_4.toInt + 1)) (fun (u : Int32 × (Nat → Int32)) => match u with | (y_tl_4, k_o0r) => [(tl, .inr (10, [.ref tls, .ref o0, .ref p0, .int x_tl_3, .int y_tl_4])), (o0, .inr (5, [.ref o0r, .int x_o0_1])), (o0r, .inl (ct 1, 60000, .inl k_o0r))]) := by
  refine KVq_of (by decide) (Nat.le_of_ble_eq_true rfl) (fun p e s m below meth c A Q C0 hA H locs hS hP hD hQ ls hl => ?_)
  obtain ⟨hx, hb, hr, hown, hin, hml, hlocks, hn, hK, hZ, hSK⟩ := C0
  have hl : lv_has ls 4 [(0, .ref tl), (1, .int v0), (2, .int v1), (3, .int v2)] := hl
  refine lv_iload_n hx hb dX10_putPassing_0 rfl (lv_at hl 1 rfl) ?_
  by_cases h1_101 : v0.toInt = 1
  · have r1_102 : rg v0 1 1 := rg_at h1_101
    have hl1_103 := FF.mk h1_101
    refine lv_tableIn (off := 89) (tgt := 90) hx hb dX10_putPassing_1 (by rw [h1_101]; decide) (by rw [h1_101]; decide) (by rw [h1_101]; rfl) (by decide) ?_
    refine lv_aload_n hx hb dX10_putPassing_90 rfl (lv_at hl 0 rfl) ?_
    refine lv_iconst (v := 1) hx hb dX10_putPassing_91 (by decide) ?_
    refine lv_iload_n hx hb dX10_putPassing_92 rfl (lv_at hl 2 rfl) ?_
    refine lv_iload_n hx hb dX10_putPassing_93 rfl (lv_at hl 3 rfl) ?_
    refine lv_bipush (v := 8) hx hb dX10_putPassing_94 (by decide) ?_
    refine go_v (k1 := 0) (n1 := 0) (wr := []) [0, 1, 2] [] (rn_V (As := [.int 1, .int v1, .int v2, .int 8]) (rest := []) (c_X10_putBranch l D ct tl (1 : Int32) v1 v2 (8 : Int32) tls o0 p0 x_tl_3 x_tl_4 o0r x_o0_1 g_o0r h_x_tl_3 (rg_w h_x_tl_4 (by decide)) h_x_o0_1 _) (cb_of (n := 4) hn mw_1345 mw_10 mw_1342 mhX10_putBranch ⟨(Nat.le_of_ble_eq_true rfl), (Nat.le_of_ble_eq_true rfl)⟩) hx hb hml hown hn hK hSK hZ hS mw_1344 mw_s155 (ci := 10) (q0 := 0) rfl rfl rfl rfl hl.1 (Nat.le_of_ble_eq_true rfl) dX10_putPassing_96 ⟨(Nat.le_of_ble_eq_true rfl), (Nat.le_of_ble_eq_true rfl)⟩) hP hD hS hA rfl rfl (by decide) (by decide) (by decide) (Nat.le_of_ble_eq_true rfl) (Nat.le_of_ble_eq_true rfl) (fun u96_2 H locs hp96_3 hP hD hS => ?_)
    obtain ⟨y_tl_496_4, k_o0r96_5⟩ := u96_2
    obtain ⟨hp96_6, hp96_7⟩ := hp96_3
    have hp96_6 : rg y_tl_496_4 1 1000001 := hp96_6
    replace hp96_7 : FF (y_tl_496_4.toInt = x_tl_4.toInt + 1) := hp96_7
    have hP : va_P D vwCl [(tl, .inr (10, [.ref tls, .ref o0, .ref p0, .int x_tl_3, .int y_tl_496_4])), (o0, .inr (5, [.ref o0r, .int x_o0_1])), (o0r, .inl (ct 1, 60000, .inl k_o0r96_5))] _ := hP
    have hD : va_D A [(tl, .inr (10, [.ref tls, .ref o0, .ref p0, .int x_tl_3, .int y_tl_496_4])), (o0, .inr (5, [.ref o0r, .int x_o0_1])), (o0r, .inl (ct 1, 60000, .inl k_o0r96_5))] := hD
    refine lv_goto (tgt := 211) hx hb dX10_putPassing_99 (by decide) ?_
    exact endq_v hQ hx hb hr hlocks dX10_putPassing_211 (y_tl_496_4, k_o0r96_5) ⟨hp96_6, (show x_tl_4.toInt + 1 ≤ y_tl_496_4.toInt ∧ y_tl_496_4.toInt ≤ x_tl_4.toInt + 2 by have q0 := FF.out hp96_7; omega), (show v0.toInt = 4 → y_tl_496_4.toInt = x_tl_4.toInt + 2 by have q0 := r1_102.2; omega), (show v0.toInt ≠ 4 → y_tl_496_4.toInt = x_tl_4.toInt + 1 by have q0 := FF.out hp96_7; omega)⟩ hP hD hS [0, 1, 2] rfl (by decide) rfl (Nat.le_of_ble_eq_true rfl) (Nat.le_of_ble_eq_true rfl)
  by_cases h1_111 : v0.toInt = 2
  · have r1_112 : rg v0 2 2 := rg_at h1_111
    have hl1_113 := FF.mk h1_111
    refine lv_tableIn (off := 113) (tgt := 114) hx hb dX10_putPassing_1 (by rw [h1_111]; decide) (by rw [h1_111]; decide) (by rw [h1_111]; rfl) (by decide) ?_
    refine lv_aload_n hx hb dX10_putPassing_114 rfl (lv_at hl 0 rfl) ?_
    refine lv_bipush (v := 7) hx hb dX10_putPassing_115 (by decide) ?_
    refine lv_iload_n hx hb dX10_putPassing_117 rfl (lv_at hl 3 rfl) ?_
    refine lv_iload_n hx hb dX10_putPassing_118 rfl (lv_at hl 2 rfl) ?_
    refine lv_bipush (v := 8) hx hb dX10_putPassing_119 (by decide) ?_
    refine go_v (k1 := 0) (n1 := 0) (wr := []) [0, 1, 2] [] (rn_V (As := [.int 7, .int v2, .int v1, .int 8]) (rest := []) (c_X10_putBranch l D ct tl (7 : Int32) v2 v1 (8 : Int32) tls o0 p0 x_tl_3 x_tl_4 o0r x_o0_1 g_o0r h_x_tl_3 (rg_w h_x_tl_4 (by decide)) h_x_o0_1 _) (cb_of (n := 4) hn mw_1345 mw_10 mw_1342 mhX10_putBranch ⟨(Nat.le_of_ble_eq_true rfl), (Nat.le_of_ble_eq_true rfl)⟩) hx hb hml hown hn hK hSK hZ hS mw_1344 mw_s155 (ci := 10) (q0 := 0) rfl rfl rfl rfl hl.1 (Nat.le_of_ble_eq_true rfl) dX10_putPassing_121 ⟨(Nat.le_of_ble_eq_true rfl), (Nat.le_of_ble_eq_true rfl)⟩) hP hD hS hA rfl rfl (by decide) (by decide) (by decide) (Nat.le_of_ble_eq_true rfl) (Nat.le_of_ble_eq_true rfl) (fun u121_2 H locs hp121_3 hP hD hS => ?_)
    obtain ⟨y_tl_4121_4, k_o0r121_5⟩ := u121_2
    obtain ⟨hp121_6, hp121_7⟩ := hp121_3
    have hp121_6 : rg y_tl_4121_4 1 1000001 := hp121_6
    replace hp121_7 : FF (y_tl_4121_4.toInt = x_tl_4.toInt + 1) := hp121_7
    have hP : va_P D vwCl [(tl, .inr (10, [.ref tls, .ref o0, .ref p0, .int x_tl_3, .int y_tl_4121_4])), (o0, .inr (5, [.ref o0r, .int x_o0_1])), (o0r, .inl (ct 1, 60000, .inl k_o0r121_5))] _ := hP
    have hD : va_D A [(tl, .inr (10, [.ref tls, .ref o0, .ref p0, .int x_tl_3, .int y_tl_4121_4])), (o0, .inr (5, [.ref o0r, .int x_o0_1])), (o0r, .inl (ct 1, 60000, .inl k_o0r121_5))] := hD
    refine lv_goto (tgt := 211) hx hb dX10_putPassing_124 (by decide) ?_
    exact endq_v hQ hx hb hr hlocks dX10_putPassing_211 (y_tl_4121_4, k_o0r121_5) ⟨hp121_6, (show x_tl_4.toInt + 1 ≤ y_tl_4121_4.toInt ∧ y_tl_4121_4.toInt ≤ x_tl_4.toInt + 2 by have q0 := FF.out hp121_7; omega), (show v0.toInt = 4 → y_tl_4121_4.toInt = x_tl_4.toInt + 2 by have q0 := r1_112.2; omega), (show v0.toInt ≠ 4 → y_tl_4121_4.toInt = x_tl_4.toInt + 1 by have q0 := FF.out hp121_7; omega)⟩ hP hD hS [0, 1, 2] rfl (by decide) rfl (Nat.le_of_ble_eq_true rfl) (Nat.le_of_ble_eq_true rfl)
  by_cases h1_121 : v0.toInt = 3
  · have r1_122 : rg v0 3 3 := rg_at h1_121
    have hl1_123 := FF.mk h1_121
    refine lv_tableIn (off := 126) (tgt := 127) hx hb dX10_putPassing_1 (by rw [h1_121]; decide) (by rw [h1_121]; decide) (by rw [h1_121]; rfl) (by decide) ?_
    refine lv_aload_n hx hb dX10_putPassing_127 rfl (lv_at hl 0 rfl) ?_
    refine lv_bipush (v := 6) hx hb dX10_putPassing_128 (by decide) ?_
    refine lv_iload_n hx hb dX10_putPassing_130 rfl (lv_at hl 2 rfl) ?_
    refine lv_iload_n hx hb dX10_putPassing_131 rfl (lv_at hl 3 rfl) ?_
    refine lv_bipush (v := 8) hx hb dX10_putPassing_132 (by decide) ?_
    refine go_v (k1 := 0) (n1 := 0) (wr := []) [0, 1, 2] [] (rn_V (As := [.int 6, .int v1, .int v2, .int 8]) (rest := []) (c_X10_putBranch l D ct tl (6 : Int32) v1 v2 (8 : Int32) tls o0 p0 x_tl_3 x_tl_4 o0r x_o0_1 g_o0r h_x_tl_3 (rg_w h_x_tl_4 (by decide)) h_x_o0_1 _) (cb_of (n := 4) hn mw_1345 mw_10 mw_1342 mhX10_putBranch ⟨(Nat.le_of_ble_eq_true rfl), (Nat.le_of_ble_eq_true rfl)⟩) hx hb hml hown hn hK hSK hZ hS mw_1344 mw_s155 (ci := 10) (q0 := 0) rfl rfl rfl rfl hl.1 (Nat.le_of_ble_eq_true rfl) dX10_putPassing_134 ⟨(Nat.le_of_ble_eq_true rfl), (Nat.le_of_ble_eq_true rfl)⟩) hP hD hS hA rfl rfl (by decide) (by decide) (by decide) (Nat.le_of_ble_eq_true rfl) (Nat.le_of_ble_eq_true rfl) (fun u134_2 H locs hp134_3 hP hD hS => ?_)
    obtain ⟨y_tl_4134_4, k_o0r134_5⟩ := u134_2
    obtain ⟨hp134_6, hp134_7⟩ := hp134_3
    have hp134_6 : rg y_tl_4134_4 1 1000001 := hp134_6
    replace hp134_7 : FF (y_tl_4134_4.toInt = x_tl_4.toInt + 1) := hp134_7
    have hP : va_P D vwCl [(tl, .inr (10, [.ref tls, .ref o0, .ref p0, .int x_tl_3, .int y_tl_4134_4])), (o0, .inr (5, [.ref o0r, .int x_o0_1])), (o0r, .inl (ct 1, 60000, .inl k_o0r134_5))] _ := hP
    have hD : va_D A [(tl, .inr (10, [.ref tls, .ref o0, .ref p0, .int x_tl_3, .int y_tl_4134_4])), (o0, .inr (5, [.ref o0r, .int x_o0_1])), (o0r, .inl (ct 1, 60000, .inl k_o0r134_5))] := hD
    refine lv_goto (tgt := 211) hx hb dX10_putPassing_137 (by decide) ?_
    exact endq_v hQ hx hb hr hlocks dX10_putPassing_211 (y_tl_4134_4, k_o0r134_5) ⟨hp134_6, (show x_tl_4.toInt + 1 ≤ y_tl_4134_4.toInt ∧ y_tl_4134_4.toInt ≤ x_tl_4.toInt + 2 by have q0 := FF.out hp134_7; omega), (show v0.toInt = 4 → y_tl_4134_4.toInt = x_tl_4.toInt + 2 by have q0 := r1_122.2; omega), (show v0.toInt ≠ 4 → y_tl_4134_4.toInt = x_tl_4.toInt + 1 by have q0 := FF.out hp134_7; omega)⟩ hP hD hS [0, 1, 2] rfl (by decide) rfl (Nat.le_of_ble_eq_true rfl) (Nat.le_of_ble_eq_true rfl)
  by_cases h1_131 : v0.toInt = 4
  · have r1_132 : rg v0 4 4 := rg_at h1_131
    have hl1_133 := FF.mk h1_131
    refine lv_tableIn (off := 63) (tgt := 64) hx hb dX10_putPassing_1 (by rw [h1_131]; decide) (by rw [h1_131]; decide) (by rw [h1_131]; rfl) (by decide) ?_
    refine lv_aload_n hx hb dX10_putPassing_64 rfl (lv_at hl 0 rfl) ?_
    refine lv_bipush (v := 51) hx hb dX10_putPassing_65 (by decide) ?_
    refine lv_iconst (v := 0) hx hb dX10_putPassing_67 (by decide) ?_
    refine lv_bipush (v := 7) hx hb dX10_putPassing_68 (by decide) ?_
    refine lv_bipush (v := 6) hx hb dX10_putPassing_70 (by decide) ?_
    refine lv_iload_n hx hb dX10_putPassing_72 rfl (lv_at hl 2 rfl) ?_
    refine lv_iload_n hx hb dX10_putPassing_73 rfl (lv_at hl 3 rfl) ?_
    refine go_v (k1 := 0) (n1 := 0) (wr := []) [0, 1, 2] [] (rn_V (As := [.int 51, .int 0, .int 7, .int 6, .int v1, .int v2]) (rest := []) (c_X10_putOp l D ct tl (51 : Int32) (0 : Int32) (7 : Int32) (6 : Int32) v1 v2 tls o0 p0 x_tl_3 x_tl_4 o0r x_o0_1 g_o0r h_x_tl_3 (rg_w h_x_tl_4 (by decide)) h_x_o0_1 _) (cb_of (n := 6) hn mw_1329 mw_10 mw_1326 mhX10_putOp ⟨(Nat.le_of_ble_eq_true rfl), (Nat.le_of_ble_eq_true rfl)⟩) hx hb hml hown hn hK hSK hZ hS mw_1328 mw_s151 (ci := 10) (q0 := 0) rfl rfl rfl rfl hl.1 (Nat.le_of_ble_eq_true rfl) dX10_putPassing_74 ⟨(Nat.le_of_ble_eq_true rfl), (Nat.le_of_ble_eq_true rfl)⟩) hP hD hS hA rfl rfl (by decide) (by decide) (by decide) (Nat.le_of_ble_eq_true rfl) (Nat.le_of_ble_eq_true rfl) (fun u74_2 H locs hp74_3 hP hD hS => ?_)
    obtain ⟨y_tl_474_4, k_o0r74_5⟩ := u74_2
    obtain ⟨hp74_6, hp74_7⟩ := hp74_3
    have hp74_6 : rg y_tl_474_4 1 1000001 := hp74_6
    replace hp74_7 : FF (y_tl_474_4.toInt = x_tl_4.toInt + 1) := hp74_7
    have hP : va_P D vwCl [(tl, .inr (10, [.ref tls, .ref o0, .ref p0, .int x_tl_3, .int y_tl_474_4])), (o0, .inr (5, [.ref o0r, .int x_o0_1])), (o0r, .inl (ct 1, 60000, .inl k_o0r74_5))] _ := hP
    have hD : va_D A [(tl, .inr (10, [.ref tls, .ref o0, .ref p0, .int x_tl_3, .int y_tl_474_4])), (o0, .inr (5, [.ref o0r, .int x_o0_1])), (o0r, .inl (ct 1, 60000, .inl k_o0r74_5))] := hD
    refine lv_aload_n hx hb dX10_putPassing_77 rfl (lv_at hl 0 rfl) ?_
    refine lv_iconst (v := 0) hx hb dX10_putPassing_78 (by decide) ?_
    refine lv_bipush (v := 6) hx hb dX10_putPassing_79 (by decide) ?_
    refine lv_iconst (v := 0) hx hb dX10_putPassing_81 (by decide) ?_
    refine lv_bipush (v := 8) hx hb dX10_putPassing_82 (by decide) ?_
    refine go_v (k1 := 0) (n1 := 0) (wr := []) [0, 1, 2] [] (rn_V (As := [.int 0, .int 6, .int 0, .int 8]) (rest := []) (c_X10_putBranch l D ct tl (0 : Int32) (6 : Int32) (0 : Int32) (8 : Int32) tls o0 p0 x_tl_3 y_tl_474_4 o0r x_o0_1 k_o0r74_5 h_x_tl_3 (rg_of (show 0 ≤ y_tl_474_4.toInt ∧ y_tl_474_4.toInt ≤ 999990 by have q0 := hp74_6.1; have q1 := h_x_tl_4.2; have q2 := FF.out hp74_7; omega)) h_x_o0_1 _) (cb_of (n := 4) hn mw_1345 mw_10 mw_1342 mhX10_putBranch ⟨(Nat.le_of_ble_eq_true rfl), (Nat.le_of_ble_eq_true rfl)⟩) hx hb hml hown hn hK hSK hZ hS mw_1344 mw_s155 (ci := 10) (q0 := 0) rfl rfl rfl rfl hl.1 (Nat.le_of_ble_eq_true rfl) dX10_putPassing_84 ⟨(Nat.le_of_ble_eq_true rfl), (Nat.le_of_ble_eq_true rfl)⟩) hP hD hS hA rfl rfl (by decide) (by decide) (by decide) (Nat.le_of_ble_eq_true rfl) (Nat.le_of_ble_eq_true rfl) (fun u84_2 H locs hp84_3 hP hD hS => ?_)
    obtain ⟨y_tl_484_4, k_o0r84_5⟩ := u84_2
    obtain ⟨hp84_6, hp84_7⟩ := hp84_3
    have hp84_6 : rg y_tl_484_4 1 1000001 := hp84_6
    replace hp84_7 : FF (y_tl_484_4.toInt = y_tl_474_4.toInt + 1) := hp84_7
    have hP : va_P D vwCl [(tl, .inr (10, [.ref tls, .ref o0, .ref p0, .int x_tl_3, .int y_tl_484_4])), (o0, .inr (5, [.ref o0r, .int x_o0_1])), (o0r, .inl (ct 1, 60000, .inl k_o0r84_5))] _ := hP
    have hD : va_D A [(tl, .inr (10, [.ref tls, .ref o0, .ref p0, .int x_tl_3, .int y_tl_484_4])), (o0, .inr (5, [.ref o0r, .int x_o0_1])), (o0r, .inl (ct 1, 60000, .inl k_o0r84_5))] := hD
    refine lv_goto (tgt := 211) hx hb dX10_putPassing_87 (by decide) ?_
    exact endq_v hQ hx hb hr hlocks dX10_putPassing_211 (y_tl_484_4, k_o0r84_5) ⟨hp84_6, (show x_tl_4.toInt + 1 ≤ y_tl_484_4.toInt ∧ y_tl_484_4.toInt ≤ x_tl_4.toInt + 2 by have q0 := FF.out hp74_7; have q1 := FF.out hp84_7; omega), (show v0.toInt = 4 → y_tl_484_4.toInt = x_tl_4.toInt + 2 by have q0 := FF.out hp74_7; have q1 := FF.out hp84_7; omega), (show v0.toInt ≠ 4 → y_tl_484_4.toInt = x_tl_4.toInt + 1 by have q0 := r1_132.1; have q1 := r1_132.2; omega)⟩ hP hD hS [0, 1, 2] rfl (by decide) rfl (Nat.le_of_ble_eq_true rfl) (Nat.le_of_ble_eq_true rfl)
  by_cases h1_141 : v0.toInt = 5
  · have r1_142 : rg v0 5 5 := rg_at h1_141
    have hl1_143 := FF.mk h1_141
    refine lv_tableIn (off := 101) (tgt := 102) hx hb dX10_putPassing_1 (by rw [h1_141]; decide) (by rw [h1_141]; decide) (by rw [h1_141]; rfl) (by decide) ?_
    refine lv_aload_n hx hb dX10_putPassing_102 rfl (lv_at hl 0 rfl) ?_
    refine lv_iconst (v := 0) hx hb dX10_putPassing_103 (by decide) ?_
    refine lv_iload_n hx hb dX10_putPassing_104 rfl (lv_at hl 2 rfl) ?_
    refine lv_iload_n hx hb dX10_putPassing_105 rfl (lv_at hl 3 rfl) ?_
    refine lv_bipush (v := 8) hx hb dX10_putPassing_106 (by decide) ?_
    refine go_v (k1 := 0) (n1 := 0) (wr := []) [0, 1, 2] [] (rn_V (As := [.int 0, .int v1, .int v2, .int 8]) (rest := []) (c_X10_putBranch l D ct tl (0 : Int32) v1 v2 (8 : Int32) tls o0 p0 x_tl_3 x_tl_4 o0r x_o0_1 g_o0r h_x_tl_3 (rg_w h_x_tl_4 (by decide)) h_x_o0_1 _) (cb_of (n := 4) hn mw_1345 mw_10 mw_1342 mhX10_putBranch ⟨(Nat.le_of_ble_eq_true rfl), (Nat.le_of_ble_eq_true rfl)⟩) hx hb hml hown hn hK hSK hZ hS mw_1344 mw_s155 (ci := 10) (q0 := 0) rfl rfl rfl rfl hl.1 (Nat.le_of_ble_eq_true rfl) dX10_putPassing_108 ⟨(Nat.le_of_ble_eq_true rfl), (Nat.le_of_ble_eq_true rfl)⟩) hP hD hS hA rfl rfl (by decide) (by decide) (by decide) (Nat.le_of_ble_eq_true rfl) (Nat.le_of_ble_eq_true rfl) (fun u108_2 H locs hp108_3 hP hD hS => ?_)
    obtain ⟨y_tl_4108_4, k_o0r108_5⟩ := u108_2
    obtain ⟨hp108_6, hp108_7⟩ := hp108_3
    have hp108_6 : rg y_tl_4108_4 1 1000001 := hp108_6
    replace hp108_7 : FF (y_tl_4108_4.toInt = x_tl_4.toInt + 1) := hp108_7
    have hP : va_P D vwCl [(tl, .inr (10, [.ref tls, .ref o0, .ref p0, .int x_tl_3, .int y_tl_4108_4])), (o0, .inr (5, [.ref o0r, .int x_o0_1])), (o0r, .inl (ct 1, 60000, .inl k_o0r108_5))] _ := hP
    have hD : va_D A [(tl, .inr (10, [.ref tls, .ref o0, .ref p0, .int x_tl_3, .int y_tl_4108_4])), (o0, .inr (5, [.ref o0r, .int x_o0_1])), (o0r, .inl (ct 1, 60000, .inl k_o0r108_5))] := hD
    refine lv_goto (tgt := 211) hx hb dX10_putPassing_111 (by decide) ?_
    exact endq_v hQ hx hb hr hlocks dX10_putPassing_211 (y_tl_4108_4, k_o0r108_5) ⟨hp108_6, (show x_tl_4.toInt + 1 ≤ y_tl_4108_4.toInt ∧ y_tl_4108_4.toInt ≤ x_tl_4.toInt + 2 by have q0 := FF.out hp108_7; omega), (show v0.toInt = 4 → y_tl_4108_4.toInt = x_tl_4.toInt + 2 by have q0 := r1_142.1; omega), (show v0.toInt ≠ 4 → y_tl_4108_4.toInt = x_tl_4.toInt + 1 by have q0 := FF.out hp108_7; omega)⟩ hP hD hS [0, 1, 2] rfl (by decide) rfl (Nat.le_of_ble_eq_true rfl) (Nat.le_of_ble_eq_true rfl)
  by_cases h1_151 : v0.toInt = 6
  · have r1_152 : rg v0 6 6 := rg_at h1_151
    have hl1_153 := FF.mk h1_151
    refine lv_tableIn (off := 165) (tgt := 166) hx hb dX10_putPassing_1 (by rw [h1_151]; decide) (by rw [h1_151]; decide) (by rw [h1_151]; rfl) (by decide) ?_
    refine lv_aload_n hx hb dX10_putPassing_166 rfl (lv_at hl 0 rfl) ?_
    refine lv_iconst (v := 5) hx hb dX10_putPassing_167 (by decide) ?_
    refine lv_iload_n hx hb dX10_putPassing_168 rfl (lv_at hl 3 rfl) ?_
    refine lv_iload_n hx hb dX10_putPassing_169 rfl (lv_at hl 2 rfl) ?_
    refine lv_bipush (v := 8) hx hb dX10_putPassing_170 (by decide) ?_
    refine go_v (k1 := 0) (n1 := 0) (wr := []) [0, 1, 2] [] (rn_V (As := [.int 5, .int v2, .int v1, .int 8]) (rest := []) (c_X10_putBranch l D ct tl (5 : Int32) v2 v1 (8 : Int32) tls o0 p0 x_tl_3 x_tl_4 o0r x_o0_1 g_o0r h_x_tl_3 (rg_w h_x_tl_4 (by decide)) h_x_o0_1 _) (cb_of (n := 4) hn mw_1345 mw_10 mw_1342 mhX10_putBranch ⟨(Nat.le_of_ble_eq_true rfl), (Nat.le_of_ble_eq_true rfl)⟩) hx hb hml hown hn hK hSK hZ hS mw_1344 mw_s155 (ci := 10) (q0 := 0) rfl rfl rfl rfl hl.1 (Nat.le_of_ble_eq_true rfl) dX10_putPassing_172 ⟨(Nat.le_of_ble_eq_true rfl), (Nat.le_of_ble_eq_true rfl)⟩) hP hD hS hA rfl rfl (by decide) (by decide) (by decide) (Nat.le_of_ble_eq_true rfl) (Nat.le_of_ble_eq_true rfl) (fun u172_2 H locs hp172_3 hP hD hS => ?_)
    obtain ⟨y_tl_4172_4, k_o0r172_5⟩ := u172_2
    obtain ⟨hp172_6, hp172_7⟩ := hp172_3
    have hp172_6 : rg y_tl_4172_4 1 1000001 := hp172_6
    replace hp172_7 : FF (y_tl_4172_4.toInt = x_tl_4.toInt + 1) := hp172_7
    have hP : va_P D vwCl [(tl, .inr (10, [.ref tls, .ref o0, .ref p0, .int x_tl_3, .int y_tl_4172_4])), (o0, .inr (5, [.ref o0r, .int x_o0_1])), (o0r, .inl (ct 1, 60000, .inl k_o0r172_5))] _ := hP
    have hD : va_D A [(tl, .inr (10, [.ref tls, .ref o0, .ref p0, .int x_tl_3, .int y_tl_4172_4])), (o0, .inr (5, [.ref o0r, .int x_o0_1])), (o0r, .inl (ct 1, 60000, .inl k_o0r172_5))] := hD
    refine lv_goto (tgt := 211) hx hb dX10_putPassing_175 (by decide) ?_
    exact endq_v hQ hx hb hr hlocks dX10_putPassing_211 (y_tl_4172_4, k_o0r172_5) ⟨hp172_6, (show x_tl_4.toInt + 1 ≤ y_tl_4172_4.toInt ∧ y_tl_4172_4.toInt ≤ x_tl_4.toInt + 2 by have q0 := FF.out hp172_7; omega), (show v0.toInt = 4 → y_tl_4172_4.toInt = x_tl_4.toInt + 2 by have q0 := r1_152.1; omega), (show v0.toInt ≠ 4 → y_tl_4172_4.toInt = x_tl_4.toInt + 1 by have q0 := FF.out hp172_7; omega)⟩ hP hD hS [0, 1, 2] rfl (by decide) rfl (Nat.le_of_ble_eq_true rfl) (Nat.le_of_ble_eq_true rfl)
  by_cases h1_161 : v0.toInt = 7
  · have r1_162 : rg v0 7 7 := rg_at h1_161
    have hl1_163 := FF.mk h1_161
    refine lv_tableIn (off := 177) (tgt := 178) hx hb dX10_putPassing_1 (by rw [h1_161]; decide) (by rw [h1_161]; decide) (by rw [h1_161]; rfl) (by decide) ?_
    refine lv_aload_n hx hb dX10_putPassing_178 rfl (lv_at hl 0 rfl) ?_
    refine lv_iconst (v := 4) hx hb dX10_putPassing_179 (by decide) ?_
    refine lv_iload_n hx hb dX10_putPassing_180 rfl (lv_at hl 2 rfl) ?_
    refine lv_iload_n hx hb dX10_putPassing_181 rfl (lv_at hl 3 rfl) ?_
    refine lv_bipush (v := 8) hx hb dX10_putPassing_182 (by decide) ?_
    refine go_v (k1 := 0) (n1 := 0) (wr := []) [0, 1, 2] [] (rn_V (As := [.int 4, .int v1, .int v2, .int 8]) (rest := []) (c_X10_putBranch l D ct tl (4 : Int32) v1 v2 (8 : Int32) tls o0 p0 x_tl_3 x_tl_4 o0r x_o0_1 g_o0r h_x_tl_3 (rg_w h_x_tl_4 (by decide)) h_x_o0_1 _) (cb_of (n := 4) hn mw_1345 mw_10 mw_1342 mhX10_putBranch ⟨(Nat.le_of_ble_eq_true rfl), (Nat.le_of_ble_eq_true rfl)⟩) hx hb hml hown hn hK hSK hZ hS mw_1344 mw_s155 (ci := 10) (q0 := 0) rfl rfl rfl rfl hl.1 (Nat.le_of_ble_eq_true rfl) dX10_putPassing_184 ⟨(Nat.le_of_ble_eq_true rfl), (Nat.le_of_ble_eq_true rfl)⟩) hP hD hS hA rfl rfl (by decide) (by decide) (by decide) (Nat.le_of_ble_eq_true rfl) (Nat.le_of_ble_eq_true rfl) (fun u184_2 H locs hp184_3 hP hD hS => ?_)
    obtain ⟨y_tl_4184_4, k_o0r184_5⟩ := u184_2
    obtain ⟨hp184_6, hp184_7⟩ := hp184_3
    have hp184_6 : rg y_tl_4184_4 1 1000001 := hp184_6
    replace hp184_7 : FF (y_tl_4184_4.toInt = x_tl_4.toInt + 1) := hp184_7
    have hP : va_P D vwCl [(tl, .inr (10, [.ref tls, .ref o0, .ref p0, .int x_tl_3, .int y_tl_4184_4])), (o0, .inr (5, [.ref o0r, .int x_o0_1])), (o0r, .inl (ct 1, 60000, .inl k_o0r184_5))] _ := hP
    have hD : va_D A [(tl, .inr (10, [.ref tls, .ref o0, .ref p0, .int x_tl_3, .int y_tl_4184_4])), (o0, .inr (5, [.ref o0r, .int x_o0_1])), (o0r, .inl (ct 1, 60000, .inl k_o0r184_5))] := hD
    refine lv_goto (tgt := 211) hx hb dX10_putPassing_187 (by decide) ?_
    exact endq_v hQ hx hb hr hlocks dX10_putPassing_211 (y_tl_4184_4, k_o0r184_5) ⟨hp184_6, (show x_tl_4.toInt + 1 ≤ y_tl_4184_4.toInt ∧ y_tl_4184_4.toInt ≤ x_tl_4.toInt + 2 by have q0 := FF.out hp184_7; omega), (show v0.toInt = 4 → y_tl_4184_4.toInt = x_tl_4.toInt + 2 by have q0 := r1_162.1; omega), (show v0.toInt ≠ 4 → y_tl_4184_4.toInt = x_tl_4.toInt + 1 by have q0 := FF.out hp184_7; omega)⟩ hP hD hS [0, 1, 2] rfl (by decide) rfl (Nat.le_of_ble_eq_true rfl) (Nat.le_of_ble_eq_true rfl)
  by_cases h1_171 : v0.toInt = 8
  · have r1_172 : rg v0 8 8 := rg_at h1_171
    have hl1_173 := FF.mk h1_171
    refine lv_tableIn (off := 201) (tgt := 202) hx hb dX10_putPassing_1 (by rw [h1_171]; decide) (by rw [h1_171]; decide) (by rw [h1_171]; rfl) (by decide) ?_
    refine lv_aload_n hx hb dX10_putPassing_202 rfl (lv_at hl 0 rfl) ?_
    refine lv_iconst (v := 4) hx hb dX10_putPassing_203 (by decide) ?_
    refine lv_iload_n hx hb dX10_putPassing_204 rfl (lv_at hl 3 rfl) ?_
    refine lv_iload_n hx hb dX10_putPassing_205 rfl (lv_at hl 2 rfl) ?_
    refine lv_bipush (v := 8) hx hb dX10_putPassing_206 (by decide) ?_
    refine go_v (k1 := 0) (n1 := 0) (wr := []) [0, 1, 2] [] (rn_V (As := [.int 4, .int v2, .int v1, .int 8]) (rest := []) (c_X10_putBranch l D ct tl (4 : Int32) v2 v1 (8 : Int32) tls o0 p0 x_tl_3 x_tl_4 o0r x_o0_1 g_o0r h_x_tl_3 (rg_w h_x_tl_4 (by decide)) h_x_o0_1 _) (cb_of (n := 4) hn mw_1345 mw_10 mw_1342 mhX10_putBranch ⟨(Nat.le_of_ble_eq_true rfl), (Nat.le_of_ble_eq_true rfl)⟩) hx hb hml hown hn hK hSK hZ hS mw_1344 mw_s155 (ci := 10) (q0 := 0) rfl rfl rfl rfl hl.1 (Nat.le_of_ble_eq_true rfl) dX10_putPassing_208 ⟨(Nat.le_of_ble_eq_true rfl), (Nat.le_of_ble_eq_true rfl)⟩) hP hD hS hA rfl rfl (by decide) (by decide) (by decide) (Nat.le_of_ble_eq_true rfl) (Nat.le_of_ble_eq_true rfl) (fun u208_2 H locs hp208_3 hP hD hS => ?_)
    obtain ⟨y_tl_4208_4, k_o0r208_5⟩ := u208_2
    obtain ⟨hp208_6, hp208_7⟩ := hp208_3
    have hp208_6 : rg y_tl_4208_4 1 1000001 := hp208_6
    replace hp208_7 : FF (y_tl_4208_4.toInt = x_tl_4.toInt + 1) := hp208_7
    have hP : va_P D vwCl [(tl, .inr (10, [.ref tls, .ref o0, .ref p0, .int x_tl_3, .int y_tl_4208_4])), (o0, .inr (5, [.ref o0r, .int x_o0_1])), (o0r, .inl (ct 1, 60000, .inl k_o0r208_5))] _ := hP
    have hD : va_D A [(tl, .inr (10, [.ref tls, .ref o0, .ref p0, .int x_tl_3, .int y_tl_4208_4])), (o0, .inr (5, [.ref o0r, .int x_o0_1])), (o0r, .inl (ct 1, 60000, .inl k_o0r208_5))] := hD
    exact endq_v hQ hx hb hr hlocks dX10_putPassing_211 (y_tl_4208_4, k_o0r208_5) ⟨hp208_6, (show x_tl_4.toInt + 1 ≤ y_tl_4208_4.toInt ∧ y_tl_4208_4.toInt ≤ x_tl_4.toInt + 2 by have q0 := FF.out hp208_7; omega), (show v0.toInt = 4 → y_tl_4208_4.toInt = x_tl_4.toInt + 2 by have q0 := r1_172.1; omega), (show v0.toInt ≠ 4 → y_tl_4208_4.toInt = x_tl_4.toInt + 1 by have q0 := FF.out hp208_7; omega)⟩ hP hD hS [0, 1, 2] rfl (by decide) rfl (Nat.le_of_ble_eq_true rfl) (Nat.le_of_ble_eq_true rfl)
  by_cases h1_181 : v0.toInt = 9
  · have r1_182 : rg v0 9 9 := rg_at h1_181
    have hl1_183 := FF.mk h1_181
    refine lv_tableIn (off := 201) (tgt := 202) hx hb dX10_putPassing_1 (by rw [h1_181]; decide) (by rw [h1_181]; decide) (by rw [h1_181]; rfl) (by decide) ?_
    refine lv_aload_n hx hb dX10_putPassing_202 rfl (lv_at hl 0 rfl) ?_
    refine lv_iconst (v := 4) hx hb dX10_putPassing_203 (by decide) ?_
    refine lv_iload_n hx hb dX10_putPassing_204 rfl (lv_at hl 3 rfl) ?_
    refine lv_iload_n hx hb dX10_putPassing_205 rfl (lv_at hl 2 rfl) ?_
    refine lv_bipush (v := 8) hx hb dX10_putPassing_206 (by decide) ?_
    refine go_v (k1 := 0) (n1 := 0) (wr := []) [0, 1, 2] [] (rn_V (As := [.int 4, .int v2, .int v1, .int 8]) (rest := []) (c_X10_putBranch l D ct tl (4 : Int32) v2 v1 (8 : Int32) tls o0 p0 x_tl_3 x_tl_4 o0r x_o0_1 g_o0r h_x_tl_3 (rg_w h_x_tl_4 (by decide)) h_x_o0_1 _) (cb_of (n := 4) hn mw_1345 mw_10 mw_1342 mhX10_putBranch ⟨(Nat.le_of_ble_eq_true rfl), (Nat.le_of_ble_eq_true rfl)⟩) hx hb hml hown hn hK hSK hZ hS mw_1344 mw_s155 (ci := 10) (q0 := 0) rfl rfl rfl rfl hl.1 (Nat.le_of_ble_eq_true rfl) dX10_putPassing_208 ⟨(Nat.le_of_ble_eq_true rfl), (Nat.le_of_ble_eq_true rfl)⟩) hP hD hS hA rfl rfl (by decide) (by decide) (by decide) (Nat.le_of_ble_eq_true rfl) (Nat.le_of_ble_eq_true rfl) (fun u208_2 H locs hp208_3 hP hD hS => ?_)
    obtain ⟨y_tl_4208_4, k_o0r208_5⟩ := u208_2
    obtain ⟨hp208_6, hp208_7⟩ := hp208_3
    have hp208_6 : rg y_tl_4208_4 1 1000001 := hp208_6
    replace hp208_7 : FF (y_tl_4208_4.toInt = x_tl_4.toInt + 1) := hp208_7
    have hP : va_P D vwCl [(tl, .inr (10, [.ref tls, .ref o0, .ref p0, .int x_tl_3, .int y_tl_4208_4])), (o0, .inr (5, [.ref o0r, .int x_o0_1])), (o0r, .inl (ct 1, 60000, .inl k_o0r208_5))] _ := hP
    have hD : va_D A [(tl, .inr (10, [.ref tls, .ref o0, .ref p0, .int x_tl_3, .int y_tl_4208_4])), (o0, .inr (5, [.ref o0r, .int x_o0_1])), (o0r, .inl (ct 1, 60000, .inl k_o0r208_5))] := hD
    exact endq_v hQ hx hb hr hlocks dX10_putPassing_211 (y_tl_4208_4, k_o0r208_5) ⟨hp208_6, (show x_tl_4.toInt + 1 ≤ y_tl_4208_4.toInt ∧ y_tl_4208_4.toInt ≤ x_tl_4.toInt + 2 by have q0 := FF.out hp208_7; omega), (show v0.toInt = 4 → y_tl_4208_4.toInt = x_tl_4.toInt + 2 by have q0 := r1_182.1; omega), (show v0.toInt ≠ 4 → y_tl_4208_4.toInt = x_tl_4.toInt + 1 by have q0 := FF.out hp208_7; omega)⟩ hP hD hS [0, 1, 2] rfl (by decide) rfl (Nat.le_of_ble_eq_true rfl) (Nat.le_of_ble_eq_true rfl)
  by_cases h1_191 : v0.toInt = 10
  · have r1_192 : rg v0 10 10 := rg_at h1_191
    have hl1_193 := FF.mk h1_191
    refine lv_tableIn (off := 139) (tgt := 140) hx hb dX10_putPassing_1 (by rw [h1_191]; decide) (by rw [h1_191]; decide) (by rw [h1_191]; rfl) (by decide) ?_
    refine lv_aload_n hx hb dX10_putPassing_140 rfl (lv_at hl 0 rfl) ?_
    refine lv_bipush (v := 7) hx hb dX10_putPassing_141 (by decide) ?_
    refine lv_iload_n hx hb dX10_putPassing_143 rfl (lv_at hl 2 rfl) ?_
    refine lv_iload_n hx hb dX10_putPassing_144 rfl (lv_at hl 3 rfl) ?_
    refine lv_bipush (v := 8) hx hb dX10_putPassing_145 (by decide) ?_
    refine go_v (k1 := 0) (n1 := 0) (wr := []) [0, 1, 2] [] (rn_V (As := [.int 7, .int v1, .int v2, .int 8]) (rest := []) (c_X10_putBranch l D ct tl (7 : Int32) v1 v2 (8 : Int32) tls o0 p0 x_tl_3 x_tl_4 o0r x_o0_1 g_o0r h_x_tl_3 (rg_w h_x_tl_4 (by decide)) h_x_o0_1 _) (cb_of (n := 4) hn mw_1345 mw_10 mw_1342 mhX10_putBranch ⟨(Nat.le_of_ble_eq_true rfl), (Nat.le_of_ble_eq_true rfl)⟩) hx hb hml hown hn hK hSK hZ hS mw_1344 mw_s155 (ci := 10) (q0 := 0) rfl rfl rfl rfl hl.1 (Nat.le_of_ble_eq_true rfl) dX10_putPassing_147 ⟨(Nat.le_of_ble_eq_true rfl), (Nat.le_of_ble_eq_true rfl)⟩) hP hD hS hA rfl rfl (by decide) (by decide) (by decide) (Nat.le_of_ble_eq_true rfl) (Nat.le_of_ble_eq_true rfl) (fun u147_2 H locs hp147_3 hP hD hS => ?_)
    obtain ⟨y_tl_4147_4, k_o0r147_5⟩ := u147_2
    obtain ⟨hp147_6, hp147_7⟩ := hp147_3
    have hp147_6 : rg y_tl_4147_4 1 1000001 := hp147_6
    replace hp147_7 : FF (y_tl_4147_4.toInt = x_tl_4.toInt + 1) := hp147_7
    have hP : va_P D vwCl [(tl, .inr (10, [.ref tls, .ref o0, .ref p0, .int x_tl_3, .int y_tl_4147_4])), (o0, .inr (5, [.ref o0r, .int x_o0_1])), (o0r, .inl (ct 1, 60000, .inl k_o0r147_5))] _ := hP
    have hD : va_D A [(tl, .inr (10, [.ref tls, .ref o0, .ref p0, .int x_tl_3, .int y_tl_4147_4])), (o0, .inr (5, [.ref o0r, .int x_o0_1])), (o0r, .inl (ct 1, 60000, .inl k_o0r147_5))] := hD
    refine lv_goto (tgt := 211) hx hb dX10_putPassing_150 (by decide) ?_
    exact endq_v hQ hx hb hr hlocks dX10_putPassing_211 (y_tl_4147_4, k_o0r147_5) ⟨hp147_6, (show x_tl_4.toInt + 1 ≤ y_tl_4147_4.toInt ∧ y_tl_4147_4.toInt ≤ x_tl_4.toInt + 2 by have q0 := FF.out hp147_7; omega), (show v0.toInt = 4 → y_tl_4147_4.toInt = x_tl_4.toInt + 2 by have q0 := r1_192.1; omega), (show v0.toInt ≠ 4 → y_tl_4147_4.toInt = x_tl_4.toInt + 1 by have q0 := FF.out hp147_7; omega)⟩ hP hD hS [0, 1, 2] rfl (by decide) rfl (Nat.le_of_ble_eq_true rfl) (Nat.le_of_ble_eq_true rfl)
  by_cases h1_201 : v0.toInt = 11
  · have r1_202 : rg v0 11 11 := rg_at h1_201
    have hl1_203 := FF.mk h1_201
    refine lv_tableIn (off := 152) (tgt := 153) hx hb dX10_putPassing_1 (by rw [h1_201]; decide) (by rw [h1_201]; decide) (by rw [h1_201]; rfl) (by decide) ?_
    refine lv_aload_n hx hb dX10_putPassing_153 rfl (lv_at hl 0 rfl) ?_
    refine lv_bipush (v := 6) hx hb dX10_putPassing_154 (by decide) ?_
    refine lv_iload_n hx hb dX10_putPassing_156 rfl (lv_at hl 3 rfl) ?_
    refine lv_iload_n hx hb dX10_putPassing_157 rfl (lv_at hl 2 rfl) ?_
    refine lv_bipush (v := 8) hx hb dX10_putPassing_158 (by decide) ?_
    refine go_v (k1 := 0) (n1 := 0) (wr := []) [0, 1, 2] [] (rn_V (As := [.int 6, .int v2, .int v1, .int 8]) (rest := []) (c_X10_putBranch l D ct tl (6 : Int32) v2 v1 (8 : Int32) tls o0 p0 x_tl_3 x_tl_4 o0r x_o0_1 g_o0r h_x_tl_3 (rg_w h_x_tl_4 (by decide)) h_x_o0_1 _) (cb_of (n := 4) hn mw_1345 mw_10 mw_1342 mhX10_putBranch ⟨(Nat.le_of_ble_eq_true rfl), (Nat.le_of_ble_eq_true rfl)⟩) hx hb hml hown hn hK hSK hZ hS mw_1344 mw_s155 (ci := 10) (q0 := 0) rfl rfl rfl rfl hl.1 (Nat.le_of_ble_eq_true rfl) dX10_putPassing_160 ⟨(Nat.le_of_ble_eq_true rfl), (Nat.le_of_ble_eq_true rfl)⟩) hP hD hS hA rfl rfl (by decide) (by decide) (by decide) (Nat.le_of_ble_eq_true rfl) (Nat.le_of_ble_eq_true rfl) (fun u160_2 H locs hp160_3 hP hD hS => ?_)
    obtain ⟨y_tl_4160_4, k_o0r160_5⟩ := u160_2
    obtain ⟨hp160_6, hp160_7⟩ := hp160_3
    have hp160_6 : rg y_tl_4160_4 1 1000001 := hp160_6
    replace hp160_7 : FF (y_tl_4160_4.toInt = x_tl_4.toInt + 1) := hp160_7
    have hP : va_P D vwCl [(tl, .inr (10, [.ref tls, .ref o0, .ref p0, .int x_tl_3, .int y_tl_4160_4])), (o0, .inr (5, [.ref o0r, .int x_o0_1])), (o0r, .inl (ct 1, 60000, .inl k_o0r160_5))] _ := hP
    have hD : va_D A [(tl, .inr (10, [.ref tls, .ref o0, .ref p0, .int x_tl_3, .int y_tl_4160_4])), (o0, .inr (5, [.ref o0r, .int x_o0_1])), (o0r, .inl (ct 1, 60000, .inl k_o0r160_5))] := hD
    refine lv_goto (tgt := 211) hx hb dX10_putPassing_163 (by decide) ?_
    exact endq_v hQ hx hb hr hlocks dX10_putPassing_211 (y_tl_4160_4, k_o0r160_5) ⟨hp160_6, (show x_tl_4.toInt + 1 ≤ y_tl_4160_4.toInt ∧ y_tl_4160_4.toInt ≤ x_tl_4.toInt + 2 by have q0 := FF.out hp160_7; omega), (show v0.toInt = 4 → y_tl_4160_4.toInt = x_tl_4.toInt + 2 by have q0 := r1_202.1; omega), (show v0.toInt ≠ 4 → y_tl_4160_4.toInt = x_tl_4.toInt + 1 by have q0 := FF.out hp160_7; omega)⟩ hP hD hS [0, 1, 2] rfl (by decide) rfl (Nat.le_of_ble_eq_true rfl) (Nat.le_of_ble_eq_true rfl)
  by_cases h1_211 : v0.toInt = 12
  · have r1_212 : rg v0 12 12 := rg_at h1_211
    have hl1_213 := FF.mk h1_211
    refine lv_tableIn (off := 189) (tgt := 190) hx hb dX10_putPassing_1 (by rw [h1_211]; decide) (by rw [h1_211]; decide) (by rw [h1_211]; rfl) (by decide) ?_
    refine lv_aload_n hx hb dX10_putPassing_190 rfl (lv_at hl 0 rfl) ?_
    refine lv_iconst (v := 5) hx hb dX10_putPassing_191 (by decide) ?_
    refine lv_iload_n hx hb dX10_putPassing_192 rfl (lv_at hl 2 rfl) ?_
    refine lv_iload_n hx hb dX10_putPassing_193 rfl (lv_at hl 3 rfl) ?_
    refine lv_bipush (v := 8) hx hb dX10_putPassing_194 (by decide) ?_
    refine go_v (k1 := 0) (n1 := 0) (wr := []) [0, 1, 2] [] (rn_V (As := [.int 5, .int v1, .int v2, .int 8]) (rest := []) (c_X10_putBranch l D ct tl (5 : Int32) v1 v2 (8 : Int32) tls o0 p0 x_tl_3 x_tl_4 o0r x_o0_1 g_o0r h_x_tl_3 (rg_w h_x_tl_4 (by decide)) h_x_o0_1 _) (cb_of (n := 4) hn mw_1345 mw_10 mw_1342 mhX10_putBranch ⟨(Nat.le_of_ble_eq_true rfl), (Nat.le_of_ble_eq_true rfl)⟩) hx hb hml hown hn hK hSK hZ hS mw_1344 mw_s155 (ci := 10) (q0 := 0) rfl rfl rfl rfl hl.1 (Nat.le_of_ble_eq_true rfl) dX10_putPassing_196 ⟨(Nat.le_of_ble_eq_true rfl), (Nat.le_of_ble_eq_true rfl)⟩) hP hD hS hA rfl rfl (by decide) (by decide) (by decide) (Nat.le_of_ble_eq_true rfl) (Nat.le_of_ble_eq_true rfl) (fun u196_2 H locs hp196_3 hP hD hS => ?_)
    obtain ⟨y_tl_4196_4, k_o0r196_5⟩ := u196_2
    obtain ⟨hp196_6, hp196_7⟩ := hp196_3
    have hp196_6 : rg y_tl_4196_4 1 1000001 := hp196_6
    replace hp196_7 : FF (y_tl_4196_4.toInt = x_tl_4.toInt + 1) := hp196_7
    have hP : va_P D vwCl [(tl, .inr (10, [.ref tls, .ref o0, .ref p0, .int x_tl_3, .int y_tl_4196_4])), (o0, .inr (5, [.ref o0r, .int x_o0_1])), (o0r, .inl (ct 1, 60000, .inl k_o0r196_5))] _ := hP
    have hD : va_D A [(tl, .inr (10, [.ref tls, .ref o0, .ref p0, .int x_tl_3, .int y_tl_4196_4])), (o0, .inr (5, [.ref o0r, .int x_o0_1])), (o0r, .inl (ct 1, 60000, .inl k_o0r196_5))] := hD
    refine lv_goto (tgt := 211) hx hb dX10_putPassing_199 (by decide) ?_
    exact endq_v hQ hx hb hr hlocks dX10_putPassing_211 (y_tl_4196_4, k_o0r196_5) ⟨hp196_6, (show x_tl_4.toInt + 1 ≤ y_tl_4196_4.toInt ∧ y_tl_4196_4.toInt ≤ x_tl_4.toInt + 2 by have q0 := FF.out hp196_7; omega), (show v0.toInt = 4 → y_tl_4196_4.toInt = x_tl_4.toInt + 2 by have q0 := r1_212.1; omega), (show v0.toInt ≠ 4 → y_tl_4196_4.toInt = x_tl_4.toInt + 1 by have q0 := FF.out hp196_7; omega)⟩ hP hD hS [0, 1, 2] rfl (by decide) rfl (Nat.le_of_ble_eq_true rfl) (Nat.le_of_ble_eq_true rfl)
  refine lv_tableOut (tgt := 202) hx hb dX10_putPassing_1 (by have q0 := (rg_any v0); have q1 := q0.1; have q2 := q0.2; omega) (by decide) ?_
  have hl1_5001 := FF.mk h1_101
  have hl1_5002 := FF.mk h1_111
  have hl1_5003 := FF.mk h1_121
  have hl1_5004 := FF.mk h1_131
  have hl1_5005 := FF.mk h1_141
  have hl1_5006 := FF.mk h1_151
  have hl1_5007 := FF.mk h1_161
  have hl1_5008 := FF.mk h1_171
  have hl1_5009 := FF.mk h1_181
  have hl1_5010 := FF.mk h1_191
  have hl1_5011 := FF.mk h1_201
  have hl1_5012 := FF.mk h1_211
  refine lv_aload_n hx hb dX10_putPassing_202 rfl (lv_at hl 0 rfl) ?_
  refine lv_iconst (v := 4) hx hb dX10_putPassing_203 (by decide) ?_
  refine lv_iload_n hx hb dX10_putPassing_204 rfl (lv_at hl 3 rfl) ?_
  refine lv_iload_n hx hb dX10_putPassing_205 rfl (lv_at hl 2 rfl) ?_
  refine lv_bipush (v := 8) hx hb dX10_putPassing_206 (by decide) ?_
  refine go_v (k1 := 0) (n1 := 0) (wr := []) [0, 1, 2] [] (rn_V (As := [.int 4, .int v2, .int v1, .int 8]) (rest := []) (c_X10_putBranch l D ct tl (4 : Int32) v2 v1 (8 : Int32) tls o0 p0 x_tl_3 x_tl_4 o0r x_o0_1 g_o0r h_x_tl_3 (rg_w h_x_tl_4 (by decide)) h_x_o0_1 _) (cb_of (n := 4) hn mw_1345 mw_10 mw_1342 mhX10_putBranch ⟨(Nat.le_of_ble_eq_true rfl), (Nat.le_of_ble_eq_true rfl)⟩) hx hb hml hown hn hK hSK hZ hS mw_1344 mw_s155 (ci := 10) (q0 := 0) rfl rfl rfl rfl hl.1 (Nat.le_of_ble_eq_true rfl) dX10_putPassing_208 ⟨(Nat.le_of_ble_eq_true rfl), (Nat.le_of_ble_eq_true rfl)⟩) hP hD hS hA rfl rfl (by decide) (by decide) (by decide) (Nat.le_of_ble_eq_true rfl) (Nat.le_of_ble_eq_true rfl) (fun u208_2 H locs hp208_3 hP hD hS => ?_)
  obtain ⟨y_tl_4208_4, k_o0r208_5⟩ := u208_2
  obtain ⟨hp208_6, hp208_7⟩ := hp208_3
  have hp208_6 : rg y_tl_4208_4 1 1000001 := hp208_6
  replace hp208_7 : FF (y_tl_4208_4.toInt = x_tl_4.toInt + 1) := hp208_7
  have hP : va_P D vwCl [(tl, .inr (10, [.ref tls, .ref o0, .ref p0, .int x_tl_3, .int y_tl_4208_4])), (o0, .inr (5, [.ref o0r, .int x_o0_1])), (o0r, .inl (ct 1, 60000, .inl k_o0r208_5))] _ := hP
  have hD : va_D A [(tl, .inr (10, [.ref tls, .ref o0, .ref p0, .int x_tl_3, .int y_tl_4208_4])), (o0, .inr (5, [.ref o0r, .int x_o0_1])), (o0r, .inl (ct 1, 60000, .inl k_o0r208_5))] := hD
  exact endq_v hQ hx hb hr hlocks dX10_putPassing_211 (y_tl_4208_4, k_o0r208_5) ⟨hp208_6, (show x_tl_4.toInt + 1 ≤ y_tl_4208_4.toInt ∧ y_tl_4208_4.toInt ≤ x_tl_4.toInt + 2 by have q0 := FF.out hp208_7; omega), (show v0.toInt = 4 → y_tl_4208_4.toInt = x_tl_4.toInt + 2 by have q0 := FF.out hl1_5004; omega), (show v0.toInt ≠ 4 → y_tl_4208_4.toInt = x_tl_4.toInt + 1 by have q0 := FF.out hp208_7; omega)⟩ hP hD hS [0, 1, 2] rfl (by decide) rfl (Nat.le_of_ble_eq_true rfl) (Nat.le_of_ble_eq_true rfl)
set_option maxHeartbeats 2000000 in
theorem c_X10_putSide_w (l : Launch) (D : va_G) (ct : Nat → ClassId) (cc : Int32) (kk : Int32) (tl : Nat) (v0 : Int64) (tls : Nat) (o0 : Nat) (p0 : Nat) (x_tl_3 : Int32) (x_tl_4 : Int32) (o0r : Nat) (x_o0_1 : Int32) (g_o0r : Nat → Int32) (h_x_tl_3 : rg x_tl_3 0 1) (h_x_tl_4 : rg x_tl_4 0 999900) (h_x_o0_1 : rg x_o0_1 0 60000) (hq0 : cc.toInt = v0.toInt % 256) (hq1 : kk.toInt = v0.toInt / 4294967296) : KI (S := Int32 × (Nat → Int32)) l yX10_putSide cX10_putSide 3 (some .int) 3 63 D ct [.ref tl, .long v0] [(tl, .inr (10, [.ref tls, .ref o0, .ref p0, .int x_tl_3, .int x_tl_4])), (o0, .inr (5, [.ref o0r, .int x_o0_1])), (o0r, .inl (ct 1, 60000, .inl g_o0r))] 0 0 (fun (r : Int32) (u : Int32 × (Nat → Int32)) => match u with | (y_tl_4, k_o0r) => rg y_tl_4 0 1000001 ∧ (x_tl_4.toInt + 0 ≤ y_tl_4.toInt ∧ y_tl_4.toInt ≤ x_tl_4.toInt + 2) ∧ ((cc.toInt / 8) % 2 = 1 → y_tl_4.toInt = x_tl_4.toInt) ∧ ((cc.toInt / 8) % 2 = 0 ∧ -2048 ≤ kk.toInt ∧ kk.toInt ≤ 2047 → y_tl_4.toInt = x_tl_4.toInt + 1) ∧ ((cc.toInt / 8) % 2 = 0 ∧ (kk.toInt < -2048 ∨ 2047 < kk.toInt) → y_tl_4.toInt = x_tl_4.toInt + 2)) (fun (u : Int32 × (Nat → Int32)) => match u with | (y_tl_4, k_o0r) => [(tl, .inr (10, [.ref tls, .ref o0, .ref p0, .int x_tl_3, .int y_tl_4])), (o0, .inr (5, [.ref o0r, .int x_o0_1])), (o0r, .inl (ct 1, 60000, .inl k_o0r))]) := by
  refine KIq_of (by decide) (Nat.le_of_ble_eq_true rfl) (fun p e s m below meth c A Q C0 hA H locs hS hP hD hQ ls hl => ?_)
  obtain ⟨hx, hb, hr, hown, hin, hml, hlocks, hn, hK, hZ, hSK⟩ := C0
  have hl : lv_has ls 3 [(0, .ref tl), (1, .long v0)] := hl
  replace hq0 := FF.mk hq0
  replace hq1 := FF.mk hq1
  refine lv_lload_n hx hb dX10_putSide_0 rfl (lv_at hl 1 rfl) ?_
  refine go_i (k1 := 0) (n1 := 0) (wr := [(tl, .inr (10, [.ref tls, .ref o0, .ref p0, .int x_tl_3, .int x_tl_4])), (o0, .inr (5, [.ref o0r, .int x_o0_1])), (o0r, .inl (ct 1, 60000, .inl g_o0r))]) [] [0, 1, 2] (rn_SN (As := [.long v0]) (rest := []) (c_X7_codeOf l D ct v0  _) (cn_of (n := 1) hn mw_956 mw_7 mw_1299 mhX7_codeOf ⟨(Nat.le_of_ble_eq_true rfl), (Nat.le_of_ble_eq_true rfl)⟩) hx hb hml hown hn hK hSK hZ hS mw_955 rfl hl.1 (Nat.le_of_ble_eq_true rfl) dX10_putSide_1 ⟨(Nat.le_of_ble_eq_true rfl), (Nat.le_of_ble_eq_true rfl)⟩) hP hD hS hA rfl rfl (by decide) (by decide) (by decide) (Nat.le_of_ble_eq_true rfl) (Nat.le_of_ble_eq_true rfl) (fun r1_1 u1_2 H locs hp1_3 hP hD hS => ?_)
  obtain ⟨hp1_4, hp1_5⟩ := hp1_3
  have hp1_4 : rg r1_1 0 255 := hp1_4
  replace hp1_5 : FF (r1_1.toInt = v0.toInt % 256) := hp1_5
  have hP : va_P D vwCl [(tl, .inr (10, [.ref tls, .ref o0, .ref p0, .int x_tl_3, .int x_tl_4])), (o0, .inr (5, [.ref o0r, .int x_o0_1])), (o0r, .inl (ct 1, 60000, .inl g_o0r))] _ := hP
  have hD : va_D A [(tl, .inr (10, [.ref tls, .ref o0, .ref p0, .int x_tl_3, .int x_tl_4])), (o0, .inr (5, [.ref o0r, .int x_o0_1])), (o0r, .inl (ct 1, 60000, .inl g_o0r))] := hD
  have hk4_1 : FF (r1_1.toInt = cc.toInt) := FF.mk (by have h1 := FF.out hq0; have h2 := FF.out hp1_5; omega)
  refine go_i (k1 := 0) (n1 := 0) (wr := [(tl, .inr (10, [.ref tls, .ref o0, .ref p0, .int x_tl_3, .int x_tl_4])), (o0, .inr (5, [.ref o0r, .int x_o0_1])), (o0r, .inl (ct 1, 60000, .inl g_o0r))]) [] [0, 1, 2] (rn_SN (As := [.int r1_1]) (rest := []) (c_X7_hasS_w l D ct r1_1 hp1_4 _) (cn_of (n := 1) hn mw_968 mw_7 mw_1310 mhX7_hasS ⟨(Nat.le_of_ble_eq_true rfl), (Nat.le_of_ble_eq_true rfl)⟩) hx hb hml hown hn hK hSK hZ hS mw_967 rfl hl.1 (Nat.le_of_ble_eq_true rfl) dX10_putSide_4 ⟨(Nat.le_of_ble_eq_true rfl), (Nat.le_of_ble_eq_true rfl)⟩) hP hD hS hA rfl rfl (by decide) (by decide) (by decide) (Nat.le_of_ble_eq_true rfl) (Nat.le_of_ble_eq_true rfl) (fun r4_2 u4_3 H locs hp4_4 hP hD hS => ?_)
  obtain ⟨hp4_5, hp4_6, hp4_7⟩ := hp4_4
  have hp4_5 : rg r4_2 0 1 := hp4_5
  replace hp4_6 : FF (r4_2.toInt = 1 → (r1_1.toInt / 8) % 2 = 1) := hp4_6
  replace hp4_7 : FF (r4_2.toInt = 0 → (r1_1.toInt / 8) % 2 = 0) := hp4_7
  have hP : va_P D vwCl [(tl, .inr (10, [.ref tls, .ref o0, .ref p0, .int x_tl_3, .int x_tl_4])), (o0, .inr (5, [.ref o0r, .int x_o0_1])), (o0r, .inl (ct 1, 60000, .inl g_o0r))] _ := hP
  have hD : va_D A [(tl, .inr (10, [.ref tls, .ref o0, .ref p0, .int x_tl_3, .int x_tl_4])), (o0, .inr (5, [.ref o0r, .int x_o0_1])), (o0r, .inl (ct 1, 60000, .inl g_o0r))] := hD
  refine lv_if_eq (tgt := 18) hx hb dX10_putSide_7 (by decide) (fun c7_1 => ?_) (fun c7_1 => ?_)
  · have t7_2 := FF.mk (i_eq c7_1)
    have r7_3 : rg r4_2 0 0 := rg_eqA t7_2 hp4_5 (show rg (0 : Int32) 0 0 from rg_l (by decide)) (by decide)
    refine lv_aload_n hx hb dX10_putSide_18 rfl (lv_at hl 0 rfl) ?_
    refine lv_iconst (v := 5) hx hb dX10_putSide_19 (by decide) ?_
    refine lv_lload_n hx hb dX10_putSide_20 rfl (lv_at hl 1 rfl) ?_
    refine go_i (k1 := 0) (n1 := 0) (wr := [(tl, .inr (10, [.ref tls, .ref o0, .ref p0, .int x_tl_3, .int x_tl_4])), (o0, .inr (5, [.ref o0r, .int x_o0_1])), (o0r, .inl (ct 1, 60000, .inl g_o0r))]) [] [0, 1, 2] (rn_SN (As := [.long v0]) (rest := [.int 5, .ref tl]) (c_X7_kOf_w l D ct v0  _) (cn_of (n := 1) hn mw_995 mw_7 mw_1311 mhX7_kOf ⟨(Nat.le_of_ble_eq_true rfl), (Nat.le_of_ble_eq_true rfl)⟩) hx hb hml hown hn hK hSK hZ hS mw_994 rfl hl.1 (Nat.le_of_ble_eq_true rfl) dX10_putSide_21 ⟨(Nat.le_of_ble_eq_true rfl), (Nat.le_of_ble_eq_true rfl)⟩) hP hD hS hA rfl rfl (by decide) (by decide) (by decide) (Nat.le_of_ble_eq_true rfl) (Nat.le_of_ble_eq_true rfl) (fun r21_1 u21_2 H locs hp21_3 hP hD hS => ?_)
    have hp21_4 := hp21_3
    replace hp21_4 : FF (r21_1.toInt = v0.toInt / 4294967296) := hp21_4
    have hP : va_P D vwCl [(tl, .inr (10, [.ref tls, .ref o0, .ref p0, .int x_tl_3, .int x_tl_4])), (o0, .inr (5, [.ref o0r, .int x_o0_1])), (o0r, .inl (ct 1, 60000, .inl g_o0r))] _ := hP
    have hD : va_D A [(tl, .inr (10, [.ref tls, .ref o0, .ref p0, .int x_tl_3, .int x_tl_4])), (o0, .inr (5, [.ref o0r, .int x_o0_1])), (o0r, .inl (ct 1, 60000, .inl g_o0r))] := hD
    have hk24_1 : FF (r21_1.toInt = kk.toInt) := FF.mk (by have h1 := FF.out hq1; have h2 := FF.out hp21_4; omega)
    refine go_v (k1 := 0) (n1 := 0) (wr := []) [0, 1, 2] [] (rn_V (As := [.int 5, .int r21_1]) (rest := []) (c_X10_putNumber_w l D ct tl (5 : Int32) r21_1 tls o0 p0 x_tl_3 x_tl_4 o0r x_o0_1 g_o0r h_x_tl_3 (rg_w h_x_tl_4 (by decide)) h_x_o0_1 _) (cb_of (n := 2) hn mw_1315 mw_10 mw_1312 mhX10_putNumber ⟨(Nat.le_of_ble_eq_true rfl), (Nat.le_of_ble_eq_true rfl)⟩) hx hb hml hown hn hK hSK hZ hS mw_1314 mw_s148 (ci := 10) (q0 := 0) rfl rfl rfl rfl hl.1 (Nat.le_of_ble_eq_true rfl) dX10_putSide_24 ⟨(Nat.le_of_ble_eq_true rfl), (Nat.le_of_ble_eq_true rfl)⟩) hP hD hS hA rfl rfl (by decide) (by decide) (by decide) (Nat.le_of_ble_eq_true rfl) (Nat.le_of_ble_eq_true rfl) (fun u24_3 H locs hp24_4 hP hD hS => ?_)
    obtain ⟨y_tl_424_5, k_o0r24_6⟩ := u24_3
    obtain ⟨hp24_7, hp24_8, hp24_9, hp24_10⟩ := hp24_4
    have hp24_7 : rg y_tl_424_5 1 1000001 := hp24_7
    replace hp24_8 : FF (x_tl_4.toInt + 1 ≤ y_tl_424_5.toInt ∧ y_tl_424_5.toInt ≤ x_tl_4.toInt + 2) := hp24_8
    replace hp24_9 : FF (-2048 ≤ r21_1.toInt ∧ r21_1.toInt ≤ 2047 → y_tl_424_5.toInt = x_tl_4.toInt + 1) := hp24_9
    replace hp24_10 : FF (r21_1.toInt < -2048 ∨ 2047 < r21_1.toInt → y_tl_424_5.toInt = x_tl_4.toInt + 2) := hp24_10
    have hP : va_P D vwCl [(tl, .inr (10, [.ref tls, .ref o0, .ref p0, .int x_tl_3, .int y_tl_424_5])), (o0, .inr (5, [.ref o0r, .int x_o0_1])), (o0r, .inl (ct 1, 60000, .inl k_o0r24_6))] _ := hP
    have hD : va_D A [(tl, .inr (10, [.ref tls, .ref o0, .ref p0, .int x_tl_3, .int y_tl_424_5])), (o0, .inr (5, [.ref o0r, .int x_o0_1])), (o0r, .inl (ct 1, 60000, .inl k_o0r24_6))] := hD
    refine lv_iconst (v := 5) hx hb dX10_putSide_27 (by decide) ?_
    exact endq_i hQ hx hb hr hlocks dX10_putSide_28 rfl (y_tl_424_5, k_o0r24_6) ⟨(rg_w hp24_7 (by decide)), (show x_tl_4.toInt + 0 ≤ y_tl_424_5.toInt ∧ y_tl_424_5.toInt ≤ x_tl_4.toInt + 2 by have q0 := FF.out hp24_8; omega), (show (cc.toInt / 8) % 2 = 1 → y_tl_424_5.toInt = x_tl_4.toInt by have q0 := FF.out hk4_1; have q1 := FF.out hp4_7; have q2 := FF.out t7_2; have q3 := (show (0 : Int32).toInt = 0 from by decide); omega), (show (cc.toInt / 8) % 2 = 0 ∧ -2048 ≤ kk.toInt ∧ kk.toInt ≤ 2047 → y_tl_424_5.toInt = x_tl_4.toInt + 1 by have q0 := FF.out hk24_1; have q1 := FF.out hp24_9; omega), (show (cc.toInt / 8) % 2 = 0 ∧ (kk.toInt < -2048 ∨ 2047 < kk.toInt) → y_tl_424_5.toInt = x_tl_4.toInt + 2 by have q0 := FF.out hk24_1; have q1 := FF.out hp24_8; have q2 := FF.out hp24_10; omega)⟩ hP hD hS [0, 1, 2] rfl (by decide) rfl (Nat.le_of_ble_eq_true rfl) (Nat.le_of_ble_eq_true rfl)
  · have t7_2 := FF.mk (i_ne c7_1)
    have r7_3 : rg r4_2 1 1 := rg_neAl t7_2 hp4_5 (show rg (0 : Int32) 0 0 from rg_l (by decide)) (by decide)
    refine lv_lload_n hx hb dX10_putSide_10 rfl (lv_at hl 1 rfl) ?_
    refine go_i (k1 := 0) (n1 := 0) (wr := [(tl, .inr (10, [.ref tls, .ref o0, .ref p0, .int x_tl_3, .int x_tl_4])), (o0, .inr (5, [.ref o0r, .int x_o0_1])), (o0r, .inl (ct 1, 60000, .inl g_o0r))]) [] [0, 1, 2] (rn_SN (As := [.long v0]) (rest := []) (c_X7_sOf l D ct v0  _) (cn_of (n := 1) hn mw_989 mw_7 mw_1321 mhX7_sOf ⟨(Nat.le_of_ble_eq_true rfl), (Nat.le_of_ble_eq_true rfl)⟩) hx hb hml hown hn hK hSK hZ hS mw_988 rfl hl.1 (Nat.le_of_ble_eq_true rfl) dX10_putSide_11 ⟨(Nat.le_of_ble_eq_true rfl), (Nat.le_of_ble_eq_true rfl)⟩) hP hD hS hA rfl rfl (by decide) (by decide) (by decide) (Nat.le_of_ble_eq_true rfl) (Nat.le_of_ble_eq_true rfl) (fun r11_1 u11_2 H locs hp11_3 hP hD hS => ?_)
    obtain ⟨hp11_4, hp11_5⟩ := hp11_3
    have hp11_4 : rg r11_1 0 15 := hp11_4
    replace hp11_5 : FF (r11_1.toInt = (v0.toInt / 4096) % 16) := hp11_5
    have hP : va_P D vwCl [(tl, .inr (10, [.ref tls, .ref o0, .ref p0, .int x_tl_3, .int x_tl_4])), (o0, .inr (5, [.ref o0r, .int x_o0_1])), (o0r, .inl (ct 1, 60000, .inl g_o0r))] _ := hP
    have hD : va_D A [(tl, .inr (10, [.ref tls, .ref o0, .ref p0, .int x_tl_3, .int x_tl_4])), (o0, .inr (5, [.ref o0r, .int x_o0_1])), (o0r, .inl (ct 1, 60000, .inl g_o0r))] := hD
    refine go_i (k1 := 0) (n1 := 0) (wr := [(tl, .inr (10, [.ref tls, .ref o0, .ref p0, .int x_tl_3, .int x_tl_4])), (o0, .inr (5, [.ref o0r, .int x_o0_1])), (o0r, .inl (ct 1, 60000, .inl g_o0r))]) [] [0, 1, 2] (rn_S (As := [.int r11_1]) (rest := []) (c_X10_placeOf l D ct r11_1  _) (cb_of (n := 1) hn mw_1308 mw_10 mw_1306 mhX10_placeOf ⟨(Nat.le_of_ble_eq_true rfl), (Nat.le_of_ble_eq_true rfl)⟩) hx hb hml hown hn hK hSK hZ hS mw_1307 rfl hl.1 (Nat.le_of_ble_eq_true rfl) dX10_putSide_14 ⟨(Nat.le_of_ble_eq_true rfl), (Nat.le_of_ble_eq_true rfl)⟩) hP hD hS hA rfl rfl (by decide) (by decide) (by decide) (Nat.le_of_ble_eq_true rfl) (Nat.le_of_ble_eq_true rfl) (fun r14_1 u14_2 H locs hp14_3 hP hD hS => ?_)
    have hP : va_P D vwCl [(tl, .inr (10, [.ref tls, .ref o0, .ref p0, .int x_tl_3, .int x_tl_4])), (o0, .inr (5, [.ref o0r, .int x_o0_1])), (o0r, .inl (ct 1, 60000, .inl g_o0r))] _ := hP
    have hD : va_D A [(tl, .inr (10, [.ref tls, .ref o0, .ref p0, .int x_tl_3, .int x_tl_4])), (o0, .inr (5, [.ref o0r, .int x_o0_1])), (o0r, .inl (ct 1, 60000, .inl g_o0r))] := hD
    exact endq_i hQ hx hb hr hlocks dX10_putSide_17 rfl (x_tl_4, g_o0r) ⟨(rg_w h_x_tl_4 (by decide)), (show x_tl_4.toInt + 0 ≤ x_tl_4.toInt ∧ x_tl_4.toInt ≤ x_tl_4.toInt + 2 by omega), (show (cc.toInt / 8) % 2 = 1 → x_tl_4.toInt = x_tl_4.toInt by omega), (show (cc.toInt / 8) % 2 = 0 ∧ -2048 ≤ kk.toInt ∧ kk.toInt ≤ 2047 → x_tl_4.toInt = x_tl_4.toInt + 1 by have q0 := r7_3.1; have q1 := r7_3.2; have q2 := FF.out hk4_1; have q3 := FF.out hp4_6; omega), (show (cc.toInt / 8) % 2 = 0 ∧ (kk.toInt < -2048 ∨ 2047 < kk.toInt) → x_tl_4.toInt = x_tl_4.toInt + 2 by have q0 := r7_3.1; have q1 := r7_3.2; have q2 := FF.out hk4_1; have q3 := FF.out hp4_6; omega)⟩ hP hD hS [0, 1, 2] rfl (by decide) rfl (Nat.le_of_ble_eq_true rfl) (Nat.le_of_ble_eq_true rfl)
