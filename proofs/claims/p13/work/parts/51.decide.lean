/-! ways that are decided -/
theorem ST.any_ {T : ST} (h : T.ok) : ∃ (k : Int32) (v : Int64) (a b : Value) (z : Int32), T.fs = [.int k, .long v, a, b, .int z] := by
  rcases ST.cases_ h with ⟨v, hf, -⟩ | ⟨v, hf, -⟩ | ⟨v, x, y, h1⟩ | ⟨x, h1, -⟩ | ⟨v, x, z, h1, -⟩ | ⟨v, x, z, h1, -⟩ | ⟨x, h1, -⟩
  · exact ⟨_, _, _, _, _, hf⟩
  · exact ⟨_, _, _, _, _, hf⟩
  all_goals exact ⟨_, _, _, _, _, h1.1⟩
/-- nothing, or an access whose place is a number -/
def DECr (pl : va_W) (r : Option Nat) : Prop := ∀ q, r = some q → ∃ (X x : ST) (v : Int64) (z : Int32), q = X.root ∧ X.ok ∧ SUB X.cells pl ∧ X.is1 4 v x z
theorem DECr.none {pl : va_W} : DECr pl none := fun q h => nomatch h
theorem DECr.some {pl : va_W} {X x : ST} {v : Int64} {z : Int32} (h : X.ok) (h2 : SUB X.cells pl) (h3 : X.is1 4 v x z) : DECr pl (some X.root) := fun q h9 => by
  cases h9
  exact ⟨X, x, v, z, rfl, h, h2, h3⟩
def FWA (g : Nat → Int32) (n : Int) : Prop := ∀ i : Nat, (i : Int) < n → FW i (g i).toInt n
theorem FWA.at {g : Nat → Int32} {n : Int} {i : Int32} (h : FWA g n) (h0 : 0 ≤ i.toInt) (hn : i.toInt < n) : FW i.toInt (g i.toNatClampNeg).toInt n := by
  have := ncn_nat h0
  have h1 := h i.toNatClampNeg (by omega)
  rw [this] at h1
  exact h1
theorem FWA.put {g g2 : Nat → Int32} {n : Int} {i v : Int32} (h : FWA g n) (e : g2 = upd g i.toNatClampNeg v) (h0 : 0 ≤ i.toInt) (hv : (v.toInt < 0 ∧ -2 ≤ v.toInt) ∨ (i.toInt < v.toInt ∧ v.toInt < n)) : FWA g2 n := fun j hj => by
  have := ncn_nat h0
  subst e
  unfold upd
  by_cases hji : j = i.toNatClampNeg
  · rw [if_pos hji]; unfold FW; omega
  · rw [if_neg hji]; exact h j hj
theorem FWA.ofY {pl : va_W} {gt : Nat → Option Nat} {gy gn g : Nat → Int32} {n m : Int} (h : MT pl gt gy gn n) (hw : IW gy g m) (hm : n ≤ m) : FWA g n := fun i hi => by
  rw [hw i (by omega)]; exact (h i hi).2.1
theorem FWA.ofN {pl : va_W} {gt : Nat → Option Nat} {gy gn g : Nat → Int32} {n m : Int} (h : MT pl gt gy gn n) (hw : IW gn g m) (hm : n ≤ m) : FWA g n := fun i hi => by
  rw [hw i (by omega)]; exact (h i hi).2.2
def rk (n t : Int) : Nat := if t < 0 then 0 else (n - t).toNat
def RKs (g : Nat → Int32) (n : Int) : Nat → Nat
  | 0 => 0
  | k + 1 => RKs g n k + rk n (g k).toInt
theorem RKs.same {g g2 : Nat → Int32} {n : Int} : ∀ {m : Nat}, (∀ k, k < m → g2 k = g k) → RKs g2 n m = RKs g n m
  | 0, _ => rfl
  | m + 1, h => by
    show RKs g2 n m + _ = RKs g n m + _
    rw [RKs.same (fun k hk => h k (by omega)), h m (by omega)]
theorem RKs.put {g g2 : Nat → Int32} {n : Int} {i : Nat} {v : Int32} (e : g2 = upd g i v) : ∀ {m : Nat}, i < m → RKs g2 n m + rk n (g i).toInt = RKs g n m + rk n v.toInt
  | 0, h => absurd h (Nat.not_lt_zero _)
  | m + 1, h => by
    show (RKs g2 n m + rk n (g2 m).toInt) + _ = (RKs g n m + rk n (g m).toInt) + _
    have e2 : ∀ t, g2 t = if t = i then v else g t := fun t => by rw [e]; rfl
    by_cases hmi : m = i
    · subst hmi
      rw [RKs.same (g := g) (fun k hk => by rw [e2, if_neg (by omega)]), e2, if_pos rfl]; omega
    · have h1 := RKs.put (n := n) (m := m) e (by omega)
      rw [e2 m, if_neg hmi]; omega
def RKB (gs gn : Nat → Int32) (n : Int) (mu : Nat) : Prop := ∃ m : Nat, n = m ∧ RKs gs n m + RKs gn n m = mu
theorem RKB.any (gs gn : Nat → Int32) {n : Int} (h : 0 ≤ n) : ∃ mu, RKB gs gn n mu := ⟨_, n.toNat, by omega, rfl⟩
theorem rk_le {n a v : Int} (h : v = a ∨ (0 ≤ a ∧ (v < 0 ∨ a < v))) (ha : a < n) : rk n v ≤ rk n a ∧ (v ≠ a → rk n v < rk n a) := by
  unfold rk
  split <;> split <;> omega
theorem RKB.putS {gs gn g2 : Nat → Int32} {n : Int} {mu : Nat} {i v : Int32} (h : RKB gs gn n mu) (e : g2 = upd gs i.toNatClampNeg v) (h0 : 0 ≤ i.toInt) (hn : i.toInt < n) (hv : v.toInt = (gs i.toNatClampNeg).toInt ∨ (0 ≤ (gs i.toNatClampNeg).toInt ∧ (v.toInt < 0 ∨ (gs i.toNatClampNeg).toInt < v.toInt))) (ha : (gs i.toNatClampNeg).toInt < n) : ∃ mu2, RKB g2 gn n mu2 ∧ mu2 ≤ mu ∧ (v.toInt ≠ (gs i.toNatClampNeg).toInt → mu2 < mu) := by
  obtain ⟨m, em, hm⟩ := h
  have h1 := RKs.put (n := n) (m := m) e (by have := ncn_nat h0; omega)
  have h2 := rk_le hv ha
  refine ⟨_, ⟨m, em, rfl⟩, by omega, fun h3 => ?_⟩
  have h4 := h2.2 h3
  omega
theorem RKB.putN {gs gn g2 : Nat → Int32} {n : Int} {mu : Nat} {i v : Int32} (h : RKB gs gn n mu) (e : g2 = upd gn i.toNatClampNeg v) (h0 : 0 ≤ i.toInt) (hn : i.toInt < n) (hv : v.toInt = (gn i.toNatClampNeg).toInt ∨ (0 ≤ (gn i.toNatClampNeg).toInt ∧ (v.toInt < 0 ∨ (gn i.toNatClampNeg).toInt < v.toInt))) (ha : (gn i.toNatClampNeg).toInt < n) : ∃ mu2, RKB gs g2 n mu2 ∧ mu2 ≤ mu ∧ (v.toInt ≠ (gn i.toNatClampNeg).toInt → mu2 < mu) := by
  obtain ⟨m, em, hm⟩ := h
  have h1 := RKs.put (n := n) (m := m) e (by have := ncn_nat h0; omega)
  have h2 := rk_le hv ha
  refine ⟨_, ⟨m, em, rfl⟩, by omega, fun h3 => ?_⟩
  have h4 := h2.2 h3
  omega
theorem MTW.at {pl : va_W} {gt : Nat → Option Nat} {n : Int} {ps pc : Nat → Nat} {i : Int32} (h : MTW pl gt n ps pc) (h0 : 0 ≤ i.toInt) (hn : i.toInt < n) : ∃ q l r sg z, gt i.toNatClampNeg = some q ∧ TSm pl q l r sg z ∧ ps i.toNatClampNeg + (l.sz + r.sz + 1) ≤ ps (i.toNatClampNeg + 1) ∧ pc i.toNatClampNeg + (l.c4 + r.c4) ≤ pc (i.toNatClampNeg + 1) := h _ (by have := ncn_nat h0; omega)
theorem MTW.up {pl : va_W} {gt : Nat → Option Nat} {ps pc : Nat → Nat} : ∀ {d a : Nat} {n : Int}, MTW pl gt n ps pc → ((a + d : Nat) : Int) ≤ n → ps a ≤ ps (a + d) ∧ pc a ≤ pc (a + d)
  | 0, a, n, _, _ => ⟨Nat.le_refl _, Nat.le_refl _⟩
  | d + 1, a, n, h, hn => by
    have h1 := MTW.up (d := d) (a := a) h (by omega)
    obtain ⟨q, l, r, sg, z, -, -, h2, h3⟩ := h (a + d) (by omega)
    rw [show a + (d + 1) = a + d + 1 by omega]
    omega
theorem MTW.le {pl : va_W} {gt : Nat → Option Nat} {n : Int} {ps pc : Nat → Nat} {i : Int32} (h : MTW pl gt n ps pc) (h0 : 0 ≤ i.toInt) (hn : i.toInt ≤ n) : ∀ k : Nat, (k : Int) = n → ps i.toNatClampNeg ≤ ps k ∧ pc i.toNatClampNeg ≤ pc k := fun k hk => by
  have h1 := ncn_nat h0
  obtain ⟨d, rfl⟩ : ∃ d, k = i.toNatClampNeg + d := ⟨k - i.toNatClampNeg, by omega⟩
  exact MTW.up h (by omega)
section ENDS
variable {p : Program} {l : Launch} {e : Env} {R : Room} {s : State} {m : MethodId} {args : Array Value} {below : List Frame} {meth : Method} {c : Code} {H : Heap} {locs : List Loc} {cells slots : Nat} {Q : State → Prop} {A : Nat → Prop}
variable {D : va_G} {X : va_W} {mc ms pc : Nat} {cc : ByteArray} {ls : Array Slot}
theorem et_q {S SX : Type} {post : Option Nat → S → Prop} {rx pl1 : S → va_W} {k n' : S → Nat} {XC : Addr → String → State → State → Prop} {cn : String} (r : Option Nat) (hQ : vx_MQ below (qa (fun r : Option Nat => some (va_rf r)) post (PoC D A (fun u => rx u ++ pl1 u)) k n' A) XC args s mc ms A = Q) (hx : p.tables.exec = Jvm.exec) (hb : c.code = cc) (hr : meth.sig.returnType = some (.object cn)) (hlocks : meth.locks = false) (hdg : decode cc pc = .ok (.areturn, 1)) (u : S) (hpost : post r u) (hP : va_P D vwCl (X ++ pl1 u) H) (hD : va_D A (X ++ pl1 u)) (hS : va_S A s.heap H locs)
    (is : List Nat) (hnd : va_nd is = true) (hs2 : is.map (fun i => X[i]?) = (rx u).map some) (h1 : cells ≤ k u) (h2 : slots ≤ n' u) (h3 : k u ≤ mc) (h4 : n' u ≤ ms) : W p l e R s m args below meth c H locs cells slots Q (F0 m pc ls [va_rf r]) := by
  subst hQ
  refine vx_ret (W.facts (fun hac => W.widen (Nat.le_trans h1 h3) (Nat.le_trans h2 h4) ?_))
  exact W.aret hx hb hr (Or.inl ⟨cn, rfl⟩) (by cases r with
    | none => exact Or.inl rfl
    | some r => exact Or.inr ⟨r, rfl⟩) (fun t ht hW => ⟨⟨r, u, rfl, hpost, ⟨by rw [ht]; exact hP.part is hs2, hD.part is hnd hs2⟩, by rw [ht]; exact hac.mono h1 h2⟩, hS.F ht⟩) hS.2.2 hdg
theorem et_ra {S SX : Type} {post : Nat → S → Prop} {rx pl1 : S → va_W} {k n' : S → Nat} {XC : Addr → String → State → State → Prop} {ty : FieldType} (hQ : vx_MQ below (qa (fun r : Nat => some (.ref r)) post (PoC D A (fun u => rx u ++ pl1 u)) k n' A) XC args s mc ms A = Q) (hx : p.tables.exec = Jvm.exec) (hb : c.code = cc) (hr : meth.sig.returnType = some (.array ty)) (hlocks : meth.locks = false) (hdg : decode cc pc = .ok (.areturn, 1)) {r : Nat} (u : S) (hpost : post r u) (hP : va_P D vwCl (X ++ pl1 u) H) (hD : va_D A (X ++ pl1 u)) (hS : va_S A s.heap H locs)
    (is : List Nat) (hnd : va_nd is = true) (hs2 : is.map (fun i => X[i]?) = (rx u).map some) (h1 : cells ≤ k u) (h2 : slots ≤ n' u) (h3 : k u ≤ mc) (h4 : n' u ≤ ms) : W p l e R s m args below meth c H locs cells slots Q (F0 m pc ls [.ref r]) := by
  subst hQ
  refine vx_ret (W.facts (fun hac => W.widen (Nat.le_trans h1 h3) (Nat.le_trans h2 h4) ?_))
  exact W.aret hx hb hr (Or.inr ⟨ty, rfl⟩) (Or.inr ⟨r, rfl⟩) (fun t ht hW => ⟨⟨r, u, rfl, hpost, ⟨by rw [ht]; exact hP.part is hs2, hD.part is hnd hs2⟩, by rw [ht]; exact hac.mono h1 h2⟩, hS.F ht⟩) hS.2.2 hdg
end ENDS
set_option maxHeartbeats 2000000 in
theorem c_X16_decider (l : Launch) (hst : l.stackTraces = false) (D : va_G) (ct : Nat → ClassId) (MC : Nat) (MS : Nat) (pl : va_W) (Y : Nat) (l_Y : ST) (r_Y : ST) (sg_Y : Int32) (z_Y : Int32) (hm_Y : ((Y, .inr (12, [.int 0, .null, .null, .ref l_Y.root, .ref r_Y.root, .int sg_Y, .int z_Y])) : Nat × va_E) ∈ pl) (ok_l_Y : l_Y.ok) (su_l_Y : SUB l_Y.cells pl) (ok_r_Y : r_Y.ok) (su_r_Y : SUB r_Y.cells pl) : KP (V := Option Nat) (S := Nat × Nat) (SX := Unit) l yX16_decider cX16_decider 3 (some (.object "FilterForgeModel$Sum")) 1 20 D ct [.ref Y] ([] ++ pl) MC MS (fun r : Option Nat => some (va_rf r)) (fun (r : Option Nat) (u : Nat × Nat) => match u with | (kc, kn) => DECr pl r ∧ (((kc : Nat) : Int) = 0) ∧ (((kn : Nat) : Int) = 0)) (fun (u : Nat × Nat) => (match u with | (kc, kn) => []) ++ pl) (fun (u : Nat × Nat) => match u with | (kc, kn) => kc) (fun (u : Nat × Nat) => match u with | (kc, kn) => kn) 15 RX15 peW (fun _ => False) (fun _ => ([] : va_W) ++ pl) (fun _ => 0) (fun _ => 0) := by
  refine KP_of (by decide) (Nat.le_of_ble_eq_true rfl) (fun p e s m below meth c A Q C0 htab hA H locs hS hP hD hQ ls hl => ?_)
  obtain ⟨hx, hb, hr, hown, hin, hml, hlocks, hn, hK, hZ, hSK⟩ := C0
  have hl : lv_has ls 3 [(0, .ref Y)] := hl
  refine lv_aload_n hx hb dX16_decider_0 rfl (lv_at hl 0 rfl) ?_
  obtain ⟨k1_1, hk1_1⟩ := pl_get (X := []) hm_Y
  refine va_get (D := D) (ci := 12) (v := .ref l_Y.root) (C := RX12) (T := TX12) (N := 7) hx hb (htX12 hn) (fun _ h => h) hown hK hP k1_1 hk1_1 rfl 3 (by decide) (hn.get mw_1981 rfl) (fun _ h9 => h9) rfl dX16_decider_1 ?_
  refine lv_astore_n (lv' := [(1, .ref l_Y.root), (0, .ref Y)]) hx hb dX16_decider_4 rfl hl (by decide) rfl (fun ls hl => ?_)
  have b5 : ∀ (n5 : Nat) (j5_l1 : ST) (H : Heap) (locs : List Loc) (ls : Array Slot), (j5_l1.ok) → (SUB j5_l1.cells pl) → (((j5_l1.sz : Nat) : Int)).toNat < n5 → lv_has ls 3 [(0, .ref Y), (1, .ref j5_l1.root)] → va_P D vwCl ([] ++ (pl)) H → va_D A ([] ++ (pl)) → va_S A s.heap H locs → W p l e ({ frames := 1, cells := MC, slots := MS, locals := 20 }) s m [.ref Y].toArray below meth c H locs 0 0 Q (F0 m 5 ls []) := by
    intro n5
    induction n5 with
    | zero => intros; rename_i hms _ _ _ _; exact absurd hms (Nat.not_lt_zero _)
    | succ n5 ih5 =>
      intro j5_l1 H locs ls ht5_1001 hu5_1002 hms5 hl hP hD hS
      have b21 : ∀ (j21_l1 : ST) (H : Heap) (locs : List Loc) (ls : Array Slot), (j21_l1.ok) → (SUB j21_l1.cells pl) → lv_has ls 3 [(0, .ref Y), (1, .ref j21_l1.root)] → va_P D vwCl ([] ++ (pl)) H → va_D A ([] ++ (pl)) → va_S A s.heap H locs → W p l e ({ frames := 1, cells := MC, slots := MS, locals := 20 }) s m [.ref Y].toArray below meth c H locs 0 0 Q (F0 m 21 ls []) := by
        intro j21_l1 H locs ls ht21_1001 hu21_1002 hl hP hD hS
        refine lv_aload_n hx hb dX16_decider_21 rfl (lv_at hl 0 rfl) ?_
        obtain ⟨k22_1, hk22_1⟩ := pl_get (X := []) hm_Y
        refine va_get (D := D) (ci := 12) (v := .int sg_Y) (C := RX12) (T := TX12) (N := 7) hx hb (htX12 hn) (fun _ h => h) hown hK hP k22_1 hk22_1 rfl 5 (by decide) (hn.get mw_1985 rfl) (fun _ h9 => h9) rfl dX16_decider_22 ?_
        refine lv_iconst (v := 1) hx hb dX16_decider_25 (by decide) ?_
        have b83 : ∀  (H : Heap) (locs : List Loc) (ls : Array Slot), lv_has ls 3 [(1, .ref j21_l1.root)] → va_P D vwCl ([] ++ (pl)) H → va_D A ([] ++ (pl)) → va_S A s.heap H locs → W p l e ({ frames := 1, cells := MC, slots := MS, locals := 20 }) s m [.ref Y].toArray below meth c H locs 0 0 Q (F0 m 83 ls []) := by
          intro  H locs ls  hl hP hD hS
          refine lv_iconst (v := 0) hx hb dX16_decider_83 (by decide) ?_
          refine lv_istore_n (lv' := [(2, .int 0), (1, .ref j21_l1.root)]) hx hb dX16_decider_84 rfl hl (by decide) rfl (fun ls hl => ?_)
          refine lv_iload_n hx hb dX16_decider_85 rfl (lv_at hl 0 rfl) ?_
          refine lv_if_eq (tgt := 93) hx hb dX16_decider_86 (by decide) (fun c86_1 => ?_) (fun c86_1 => absurd (by decide) c86_1)
          refine lv_null hx hb dX16_decider_93 ?_
          exact et_q (SX := Unit) (pl1 := fun _ => pl) none hQ hx hb hr hlocks dX16_decider_94 (0, 0) ⟨DECr.none, (show ((0 : Nat) : Int) = 0 by omega), (show ((0 : Nat) : Int) = 0 by omega)⟩ hP hD hS [] (by decide) rfl (Nat.le_refl _) (Nat.le_refl _) (Nat.zero_le MC) (Nat.zero_le MS)
        refine lv_icmp_ne (tgt := 83) hx hb dX16_decider_26 (by decide) (fun c26_1 => ?_) (fun c26_1 => ?_)
        · have t26_2 := FF.mk (i_ne c26_1)
          exact b83  H locs ls  (lv_sub hl [1] rfl) hP hD hS
        · have t26_2 := FF.mk (i_eq c26_1)
          have r26_3 : rg sg_Y 1 1 := rg_eqA t26_2 (rg_any sg_Y) (show rg (1 : Int32) 1 1 from rg_l (by decide)) (by decide)
          refine lv_aload_n hx hb dX16_decider_29 rfl (lv_at hl 0 rfl) ?_
          obtain ⟨k30_1, hk30_1⟩ := pl_get (X := []) hm_Y
          refine va_get (D := D) (ci := 12) (v := .ref r_Y.root) (C := RX12) (T := TX12) (N := 7) hx hb (htX12 hn) (fun _ h => h) hown hK hP k30_1 hk30_1 rfl 4 (by decide) (hn.get mw_1983 rfl) (fun _ h9 => h9) rfl dX16_decider_30 ?_
          rcases ST.cases_ ok_r_Y with ⟨o33_1v0, hfo33_1, hzo33_1, hdo33_1⟩ | ⟨o33_1v1, hfo33_1, hzo33_1, hdo33_1⟩ | ⟨o33_1v2, o33_1x2, o33_1y2, h2o33_1⟩ | ⟨o33_1x3, h1o33_1, hco33_1⟩ | ⟨o33_1v4, o33_1x4, o33_1z4, h1o33_1, hzo33_1, hdo33_1, hco33_1⟩ | ⟨o33_1v4, o33_1x4, o33_1z4, h1o33_1, hzo33_1, hdo33_1, hco33_1⟩ | ⟨o33_1x5, h1o33_1, hco33_1⟩
          · have hm33_52 := ST.nodeP ok_r_Y su_r_Y hfo33_1
            have hk33_53 : FF (((r_Y.sz : Nat) : Int) = 1) := FF.mk (by omega)
            have hk33_54 : FF (((r_Y.c4 : Nat) : Int) = 0) := FF.mk (by omega)
            obtain ⟨k33_1, hk33_1⟩ := pl_get (X := []) hm33_52
            refine va_get (D := D) (ci := 14) (v := .int 0) (C := RX14) (T := TX14) (N := 5) hx hb (htX14 hn) (fun _ h => h) hown hK hP k33_1 hk33_1 rfl 0 (by decide) (hn.get mw_2047 rfl) (fun _ h9 => h9) rfl dX16_decider_33 ?_
            refine lv_if_ne (tgt := 83) hx hb dX16_decider_36 (by decide) (fun c36_1 => absurd (by decide) c36_1) (fun c36_1 => ?_)
            refine lv_aload_n hx hb dX16_decider_39 rfl (lv_at hl 1 rfl) ?_
            rcases ST.cases_ ht21_1001 with ⟨o40_1v0, hfo40_1, hzo40_1, hdo40_1⟩ | ⟨o40_1v1, hfo40_1, hzo40_1, hdo40_1⟩ | ⟨o40_1v2, o40_1x2, o40_1y2, h2o40_1⟩ | ⟨o40_1x3, h1o40_1, hco40_1⟩ | ⟨o40_1v4, o40_1x4, o40_1z4, h1o40_1, hzo40_1, hdo40_1, hco40_1⟩ | ⟨o40_1v4, o40_1x4, o40_1z4, h1o40_1, hzo40_1, hdo40_1, hco40_1⟩ | ⟨o40_1x5, h1o40_1, hco40_1⟩
            · have hm40_52 := ST.nodeP ht21_1001 hu21_1002 hfo40_1
              have hk40_53 : FF (((j21_l1.sz : Nat) : Int) = 1) := FF.mk (by omega)
              have hk40_54 : FF (((j21_l1.c4 : Nat) : Int) = 0) := FF.mk (by omega)
              obtain ⟨k40_1, hk40_1⟩ := pl_get (X := []) hm40_52
              refine va_get (D := D) (ci := 14) (v := .int 0) (C := RX14) (T := TX14) (N := 5) hx hb (htX14 hn) (fun _ h => h) hown hK hP k40_1 hk40_1 rfl 0 (by decide) (hn.get mw_2047 rfl) (fun _ h9 => h9) rfl dX16_decider_40 ?_
              refine lv_iconst (v := 4) hx hb dX16_decider_43 (by decide) ?_
              refine lv_icmp_ne (tgt := 83) hx hb dX16_decider_44 (by decide) (fun c44_1 => ?_) (fun c44_1 => absurd c44_1 (by decide))
              exact b83  H locs ls  (lv_sub hl [1] rfl) hP hD hS
            · have hm40_102 := ST.nodeP ht21_1001 hu21_1002 hfo40_1
              have hk40_103 : FF (((j21_l1.sz : Nat) : Int) = 1) := FF.mk (by omega)
              have hk40_104 : FF (((j21_l1.c4 : Nat) : Int) = 0) := FF.mk (by omega)
              obtain ⟨k40_1, hk40_1⟩ := pl_get (X := []) hm40_102
              refine va_get (D := D) (ci := 14) (v := .int 1) (C := RX14) (T := TX14) (N := 5) hx hb (htX14 hn) (fun _ h => h) hown hK hP k40_1 hk40_1 rfl 0 (by decide) (hn.get mw_2047 rfl) (fun _ h9 => h9) rfl dX16_decider_40 ?_
              refine lv_iconst (v := 4) hx hb dX16_decider_43 (by decide) ?_
              refine lv_icmp_ne (tgt := 83) hx hb dX16_decider_44 (by decide) (fun c44_1 => ?_) (fun c44_1 => absurd c44_1 (by decide))
              exact b83  H locs ls  (lv_sub hl [1] rfl) hP hD hS
            · have h40_152f := h2o40_1.1; have h40_152x := h2o40_1.2.1; have h40_152y := h2o40_1.2.2.1; have h40_152u := SUB.tr h2o40_1.2.2.2.2.2.2.2.1 hu21_1002; have h40_152w := SUB.tr h2o40_1.2.2.2.2.2.2.2.2 hu21_1002
              have hm40_153 := ST.nodeP ht21_1001 hu21_1002 h40_152f
              have hk40_154 : FF (1 ≤ ((o40_1x2.sz : Nat) : Int)) := FF.mk (ST.sz_pos h40_152x)
              have hk40_155 : FF (0 ≤ ((o40_1x2.dep : Nat) : Int)) := FF.mk (Int.natCast_nonneg _)
              have hk40_156 : FF (0 ≤ ((o40_1x2.c4 : Nat) : Int)) := FF.mk (Int.natCast_nonneg _)
              have hk40_157 : FF (1 ≤ ((o40_1y2.sz : Nat) : Int)) := FF.mk (ST.sz_pos h40_152y)
              have hk40_158 : FF (0 ≤ ((o40_1y2.dep : Nat) : Int)) := FF.mk (Int.natCast_nonneg _)
              have hk40_159 : FF (0 ≤ ((o40_1y2.c4 : Nat) : Int)) := FF.mk (Int.natCast_nonneg _)
              have hk40_160 : FF (((j21_l1.sz : Nat) : Int) = ((o40_1x2.sz : Nat) : Int) + ((o40_1y2.sz : Nat) : Int) + 1) := FF.mk ((ST.is2_f h2o40_1).1)
              have hk40_161 : FF (((o40_1x2.dep : Nat) : Int) ≤ ((j21_l1.dep : Nat) : Int)) := FF.mk ((ST.is2_f h2o40_1).2.1)
              have hk40_162 : FF (((o40_1y2.dep : Nat) : Int) + 1 ≤ ((j21_l1.dep : Nat) : Int)) := FF.mk ((ST.is2_f h2o40_1).2.2.1)
              have hk40_163 : FF (((j21_l1.c4 : Nat) : Int) = ((o40_1x2.c4 : Nat) : Int) + ((o40_1y2.c4 : Nat) : Int)) := FF.mk ((ST.is2_f h2o40_1).2.2.2)
              obtain ⟨k40_1, hk40_1⟩ := pl_get (X := []) hm40_153
              refine va_get (D := D) (ci := 14) (v := .int 2) (C := RX14) (T := TX14) (N := 5) hx hb (htX14 hn) (fun _ h => h) hown hK hP k40_1 hk40_1 rfl 0 (by decide) (hn.get mw_2047 rfl) (fun _ h9 => h9) rfl dX16_decider_40 ?_
              refine lv_iconst (v := 4) hx hb dX16_decider_43 (by decide) ?_
              refine lv_icmp_ne (tgt := 83) hx hb dX16_decider_44 (by decide) (fun c44_1 => ?_) (fun c44_1 => absurd c44_1 (by decide))
              exact b83  H locs ls  (lv_sub hl [1] rfl) hP hD hS
            · have hfo40_1 := h1o40_1.1; have hxo40_1 := h1o40_1.2.1; have huo40_1 := SUB.tr h1o40_1.2.2.2.2 hu21_1002
              have hm40_202 := ST.nodeP ht21_1001 hu21_1002 hfo40_1
              have hk40_203 : FF (1 ≤ ((o40_1x3.sz : Nat) : Int)) := FF.mk (ST.sz_pos hxo40_1)
              have hk40_204 : FF (0 ≤ ((o40_1x3.dep : Nat) : Int)) := FF.mk (Int.natCast_nonneg _)
              have hk40_205 : FF (0 ≤ ((o40_1x3.c4 : Nat) : Int)) := FF.mk (Int.natCast_nonneg _)
              have hk40_206 : FF (((j21_l1.sz : Nat) : Int) = ((o40_1x3.sz : Nat) : Int) + 1) := FF.mk ((ST.is1_f h1o40_1).1)
              have hk40_207 : FF (((j21_l1.dep : Nat) : Int) = ((o40_1x3.dep : Nat) : Int) + 1) := FF.mk ((ST.is1_f h1o40_1).2)
              have hk40_208 : FF (((j21_l1.c4 : Nat) : Int) = ((o40_1x3.c4 : Nat) : Int)) := FF.mk (by omega)
              obtain ⟨k40_1, hk40_1⟩ := pl_get (X := []) hm40_202
              refine va_get (D := D) (ci := 14) (v := .int 3) (C := RX14) (T := TX14) (N := 5) hx hb (htX14 hn) (fun _ h => h) hown hK hP k40_1 hk40_1 rfl 0 (by decide) (hn.get mw_2047 rfl) (fun _ h9 => h9) rfl dX16_decider_40 ?_
              refine lv_iconst (v := 4) hx hb dX16_decider_43 (by decide) ?_
              refine lv_icmp_ne (tgt := 83) hx hb dX16_decider_44 (by decide) (fun c44_1 => ?_) (fun c44_1 => absurd c44_1 (by decide))
              exact b83  H locs ls  (lv_sub hl [1] rfl) hP hD hS
            · have hfo40_1 := h1o40_1.1; have hxo40_1 := h1o40_1.2.1; have huo40_1 := SUB.tr h1o40_1.2.2.2.2 hu21_1002
              have r40_252 : rg o40_1z4 1 4 := rg_of hzo40_1
              have hm40_253 := ST.nodeP ht21_1001 hu21_1002 hfo40_1
              have hk40_254 : FF (1 ≤ ((o40_1x4.sz : Nat) : Int)) := FF.mk (ST.sz_pos hxo40_1)
              have hk40_255 : FF (0 ≤ ((o40_1x4.dep : Nat) : Int)) := FF.mk (Int.natCast_nonneg _)
              have hk40_256 : FF (0 ≤ ((o40_1x4.c4 : Nat) : Int)) := FF.mk (Int.natCast_nonneg _)
              have hk40_257 : FF (((j21_l1.sz : Nat) : Int) = ((o40_1x4.sz : Nat) : Int) + 1) := FF.mk ((ST.is1_f h1o40_1).1)
              have hk40_258 : FF (((j21_l1.dep : Nat) : Int) = ((o40_1x4.dep : Nat) : Int) + 1) := FF.mk ((ST.is1_f h1o40_1).2)
              have hk40_259 : FF (((j21_l1.c4 : Nat) : Int) = ((o40_1x4.c4 : Nat) : Int) + 1) := FF.mk (by omega)
              have hk40_260 : FF (o40_1z4.toInt = 4) := FF.mk hdo40_1
              obtain ⟨k40_1, hk40_1⟩ := pl_get (X := []) hm40_253
              refine va_get (D := D) (ci := 14) (v := .int 4) (C := RX14) (T := TX14) (N := 5) hx hb (htX14 hn) (fun _ h => h) hown hK hP k40_1 hk40_1 rfl 0 (by decide) (hn.get mw_2047 rfl) (fun _ h9 => h9) rfl dX16_decider_40 ?_
              refine lv_iconst (v := 4) hx hb dX16_decider_43 (by decide) ?_
              refine lv_icmp_ne (tgt := 83) hx hb dX16_decider_44 (by decide) (fun c44_1 => absurd (by decide) c44_1) (fun c44_1 => ?_)
              refine lv_aload_n hx hb dX16_decider_47 rfl (lv_at hl 1 rfl) ?_
              obtain ⟨k48_1, hk48_1⟩ := pl_get (X := []) hm40_253
              refine va_get (D := D) (ci := 14) (v := .long o40_1v4) (C := RX14) (T := TX14) (N := 5) hx hb (htX14 hn) (fun _ h => h) hown hK hP k48_1 hk48_1 rfl 1 (by decide) (hn.get mw_2049 rfl) (fun _ h9 => h9) rfl dX16_decider_48 ?_
              refine lv_ldc2 (v := 3) hx hb hown (hn.get mw_2239 rfl) dX16_decider_51 ?_
              refine W.lcmp hx hb dX16_decider_54 ?_
              refine lv_topi (fun z54_1 ez54_1 => ?_)
              refine lv_if_gt (tgt := 83) hx hb dX16_decider_55 (by decide) (fun c55_1 => ?_) (fun c55_1 => ?_)
              · have t55_2 := FF.mk (l_gt ez54_1 c55_1)
                have r55_3 : rl o40_1v4 4 9223372036854775807 := rl_ltB t55_2 (show rl (3 : Int64) 3 3 from rl_l (by decide)) (rl_any o40_1v4) (by decide)
                exact b83  H locs ls  (lv_sub hl [1] rfl) hP hD hS
              · have t55_2 := FF.mk (l_ngt ez54_1 c55_1)
                have r55_3 : rl o40_1v4 (-9223372036854775808) 3 := rl_leA t55_2 (rl_any o40_1v4) (show rl (3 : Int64) 3 3 from rl_l (by decide)) (by decide)
                refine lv_aload_n hx hb dX16_decider_58 rfl (lv_at hl 1 rfl) ?_
                obtain ⟨k59_1, hk59_1⟩ := pl_get (X := []) hm40_253
                refine va_get (D := D) (ci := 14) (v := .long o40_1v4) (C := RX14) (T := TX14) (N := 5) hx hb (htX14 hn) (fun _ h => h) hown hK hP k59_1 hk59_1 rfl 1 (by decide) (hn.get mw_2049 rfl) (fun _ h9 => h9) rfl dX16_decider_59 ?_
                refine lv_ldc2 (v := (-2)) hx hb hown (hn.get mw_2197 rfl) dX16_decider_62 ?_
                refine W.lcmp hx hb dX16_decider_65 ?_
                refine lv_topi (fun z65_1 ez65_1 => ?_)
                refine lv_if_eq (tgt := 83) hx hb dX16_decider_66 (by decide) (fun c66_1 => ?_) (fun c66_1 => ?_)
                · have t66_2 := FF.mk (l_eq ez65_1 c66_1)
                  have r66_3 : rl o40_1v4 (-2) (-2) := rl_eqA t66_2 r55_3 (show rl ((-2) : Int64) (-2) (-2) from rl_l (by decide)) (by decide)
                  exact b83  H locs ls  (lv_sub hl [1] rfl) hP hD hS
                · have t66_2 := FF.mk (l_neq ez65_1 c66_1)
                  refine lv_aload_n hx hb dX16_decider_69 rfl (lv_at hl 1 rfl) ?_
                  obtain ⟨k70_1, hk70_1⟩ := pl_get (X := []) hm40_253
                  refine va_get (D := D) (ci := 14) (v := .ref o40_1x4.root) (C := RX14) (T := TX14) (N := 5) hx hb (htX14 hn) (fun _ h => h) hown hK hP k70_1 hk70_1 rfl 2 (by decide) (hn.get mw_2051 rfl) (fun _ h9 => h9) rfl dX16_decider_70 ?_
                  rcases ST.cases_ hxo40_1 with ⟨o73_1v0, hfo73_1, hzo73_1, hdo73_1⟩ | ⟨o73_1v1, hfo73_1, hzo73_1, hdo73_1⟩ | ⟨o73_1v2, o73_1x2, o73_1y2, h2o73_1⟩ | ⟨o73_1x3, h1o73_1, hco73_1⟩ | ⟨o73_1v4, o73_1x4, o73_1z4, h1o73_1, hzo73_1, hdo73_1, hco73_1⟩ | ⟨o73_1v4, o73_1x4, o73_1z4, h1o73_1, hzo73_1, hdo73_1, hco73_1⟩ | ⟨o73_1x5, h1o73_1, hco73_1⟩
                  · have hm73_52 := ST.nodeP hxo40_1 huo40_1 hfo73_1
                    have hk73_53 : FF (((o40_1x4.sz : Nat) : Int) = 1) := FF.mk (by omega)
                    have hk73_54 : FF (((o40_1x4.c4 : Nat) : Int) = 0) := FF.mk (by omega)
                    obtain ⟨k73_1, hk73_1⟩ := pl_get (X := []) hm73_52
                    refine va_get (D := D) (ci := 14) (v := .int 0) (C := RX14) (T := TX14) (N := 5) hx hb (htX14 hn) (fun _ h => h) hown hK hP k73_1 hk73_1 rfl 0 (by decide) (hn.get mw_2047 rfl) (fun _ h9 => h9) rfl dX16_decider_73 ?_
                    refine lv_if_ne (tgt := 83) hx hb dX16_decider_76 (by decide) (fun c76_1 => absurd (by decide) c76_1) (fun c76_1 => ?_)
                    refine lv_iconst (v := 1) hx hb dX16_decider_79 (by decide) ?_
                    refine lv_goto (tgt := 84) hx hb dX16_decider_80 (by decide) ?_
                    refine lv_istore_n (lv' := [(2, .int 1), (0, .ref Y), (1, .ref j21_l1.root)]) hx hb dX16_decider_84 rfl hl (by decide) rfl (fun ls hl => ?_)
                    refine lv_iload_n hx hb dX16_decider_85 rfl (lv_at hl 0 rfl) ?_
                    refine lv_if_eq (tgt := 93) hx hb dX16_decider_86 (by decide) (fun c86_1 => absurd c86_1 (by decide)) (fun c86_1 => ?_)
                    refine lv_aload_n hx hb dX16_decider_89 rfl (lv_at hl 2 rfl) ?_
                    refine lv_goto (tgt := 94) hx hb dX16_decider_90 (by decide) ?_
                    exact et_q (SX := Unit) (pl1 := fun _ => pl) (some j21_l1.root) hQ hx hb hr hlocks dX16_decider_94 (0, 0) ⟨(DECr.some ht21_1001 hu21_1002 h1o40_1), (show ((0 : Nat) : Int) = 0 by omega), (show ((0 : Nat) : Int) = 0 by omega)⟩ hP hD hS [] (by decide) rfl (Nat.le_refl _) (Nat.le_refl _) (Nat.zero_le MC) (Nat.zero_le MS)
                  · have hm73_102 := ST.nodeP hxo40_1 huo40_1 hfo73_1
                    have hk73_103 : FF (((o40_1x4.sz : Nat) : Int) = 1) := FF.mk (by omega)
                    have hk73_104 : FF (((o40_1x4.c4 : Nat) : Int) = 0) := FF.mk (by omega)
                    obtain ⟨k73_1, hk73_1⟩ := pl_get (X := []) hm73_102
                    refine va_get (D := D) (ci := 14) (v := .int 1) (C := RX14) (T := TX14) (N := 5) hx hb (htX14 hn) (fun _ h => h) hown hK hP k73_1 hk73_1 rfl 0 (by decide) (hn.get mw_2047 rfl) (fun _ h9 => h9) rfl dX16_decider_73 ?_
                    refine lv_if_ne (tgt := 83) hx hb dX16_decider_76 (by decide) (fun c76_1 => ?_) (fun c76_1 => absurd c76_1 (by decide))
                    exact b83  H locs ls  (lv_sub hl [1] rfl) hP hD hS
                  · have h73_152f := h2o73_1.1; have h73_152x := h2o73_1.2.1; have h73_152y := h2o73_1.2.2.1; have h73_152u := SUB.tr h2o73_1.2.2.2.2.2.2.2.1 huo40_1; have h73_152w := SUB.tr h2o73_1.2.2.2.2.2.2.2.2 huo40_1
                    have hm73_153 := ST.nodeP hxo40_1 huo40_1 h73_152f
                    have hk73_154 : FF (1 ≤ ((o73_1x2.sz : Nat) : Int)) := FF.mk (ST.sz_pos h73_152x)
                    have hk73_155 : FF (0 ≤ ((o73_1x2.dep : Nat) : Int)) := FF.mk (Int.natCast_nonneg _)
                    have hk73_156 : FF (0 ≤ ((o73_1x2.c4 : Nat) : Int)) := FF.mk (Int.natCast_nonneg _)
                    have hk73_157 : FF (1 ≤ ((o73_1y2.sz : Nat) : Int)) := FF.mk (ST.sz_pos h73_152y)
                    have hk73_158 : FF (0 ≤ ((o73_1y2.dep : Nat) : Int)) := FF.mk (Int.natCast_nonneg _)
                    have hk73_159 : FF (0 ≤ ((o73_1y2.c4 : Nat) : Int)) := FF.mk (Int.natCast_nonneg _)
                    have hk73_160 : FF (((o40_1x4.sz : Nat) : Int) = ((o73_1x2.sz : Nat) : Int) + ((o73_1y2.sz : Nat) : Int) + 1) := FF.mk ((ST.is2_f h2o73_1).1)
                    have hk73_161 : FF (((o73_1x2.dep : Nat) : Int) ≤ ((o40_1x4.dep : Nat) : Int)) := FF.mk ((ST.is2_f h2o73_1).2.1)
                    have hk73_162 : FF (((o73_1y2.dep : Nat) : Int) + 1 ≤ ((o40_1x4.dep : Nat) : Int)) := FF.mk ((ST.is2_f h2o73_1).2.2.1)
                    have hk73_163 : FF (((o40_1x4.c4 : Nat) : Int) = ((o73_1x2.c4 : Nat) : Int) + ((o73_1y2.c4 : Nat) : Int)) := FF.mk ((ST.is2_f h2o73_1).2.2.2)
                    obtain ⟨k73_1, hk73_1⟩ := pl_get (X := []) hm73_153
                    refine va_get (D := D) (ci := 14) (v := .int 2) (C := RX14) (T := TX14) (N := 5) hx hb (htX14 hn) (fun _ h => h) hown hK hP k73_1 hk73_1 rfl 0 (by decide) (hn.get mw_2047 rfl) (fun _ h9 => h9) rfl dX16_decider_73 ?_
                    refine lv_if_ne (tgt := 83) hx hb dX16_decider_76 (by decide) (fun c76_1 => ?_) (fun c76_1 => absurd c76_1 (by decide))
                    exact b83  H locs ls  (lv_sub hl [1] rfl) hP hD hS
                  · have hfo73_1 := h1o73_1.1; have hxo73_1 := h1o73_1.2.1; have huo73_1 := SUB.tr h1o73_1.2.2.2.2 huo40_1
                    have hm73_202 := ST.nodeP hxo40_1 huo40_1 hfo73_1
                    have hk73_203 : FF (1 ≤ ((o73_1x3.sz : Nat) : Int)) := FF.mk (ST.sz_pos hxo73_1)
                    have hk73_204 : FF (0 ≤ ((o73_1x3.dep : Nat) : Int)) := FF.mk (Int.natCast_nonneg _)
                    have hk73_205 : FF (0 ≤ ((o73_1x3.c4 : Nat) : Int)) := FF.mk (Int.natCast_nonneg _)
                    have hk73_206 : FF (((o40_1x4.sz : Nat) : Int) = ((o73_1x3.sz : Nat) : Int) + 1) := FF.mk ((ST.is1_f h1o73_1).1)
                    have hk73_207 : FF (((o40_1x4.dep : Nat) : Int) = ((o73_1x3.dep : Nat) : Int) + 1) := FF.mk ((ST.is1_f h1o73_1).2)
                    have hk73_208 : FF (((o40_1x4.c4 : Nat) : Int) = ((o73_1x3.c4 : Nat) : Int)) := FF.mk (by omega)
                    obtain ⟨k73_1, hk73_1⟩ := pl_get (X := []) hm73_202
                    refine va_get (D := D) (ci := 14) (v := .int 3) (C := RX14) (T := TX14) (N := 5) hx hb (htX14 hn) (fun _ h => h) hown hK hP k73_1 hk73_1 rfl 0 (by decide) (hn.get mw_2047 rfl) (fun _ h9 => h9) rfl dX16_decider_73 ?_
                    refine lv_if_ne (tgt := 83) hx hb dX16_decider_76 (by decide) (fun c76_1 => ?_) (fun c76_1 => absurd c76_1 (by decide))
                    exact b83  H locs ls  (lv_sub hl [1] rfl) hP hD hS
                  · have hfo73_1 := h1o73_1.1; have hxo73_1 := h1o73_1.2.1; have huo73_1 := SUB.tr h1o73_1.2.2.2.2 huo40_1
                    have r73_252 : rg o73_1z4 1 4 := rg_of hzo73_1
                    have hm73_253 := ST.nodeP hxo40_1 huo40_1 hfo73_1
                    have hk73_254 : FF (1 ≤ ((o73_1x4.sz : Nat) : Int)) := FF.mk (ST.sz_pos hxo73_1)
                    have hk73_255 : FF (0 ≤ ((o73_1x4.dep : Nat) : Int)) := FF.mk (Int.natCast_nonneg _)
                    have hk73_256 : FF (0 ≤ ((o73_1x4.c4 : Nat) : Int)) := FF.mk (Int.natCast_nonneg _)
                    have hk73_257 : FF (((o40_1x4.sz : Nat) : Int) = ((o73_1x4.sz : Nat) : Int) + 1) := FF.mk ((ST.is1_f h1o73_1).1)
                    have hk73_258 : FF (((o40_1x4.dep : Nat) : Int) = ((o73_1x4.dep : Nat) : Int) + 1) := FF.mk ((ST.is1_f h1o73_1).2)
                    have hk73_259 : FF (((o40_1x4.c4 : Nat) : Int) = ((o73_1x4.c4 : Nat) : Int) + 1) := FF.mk (by omega)
                    have hk73_260 : FF (o73_1z4.toInt = 4) := FF.mk hdo73_1
                    obtain ⟨k73_1, hk73_1⟩ := pl_get (X := []) hm73_253
                    refine va_get (D := D) (ci := 14) (v := .int 4) (C := RX14) (T := TX14) (N := 5) hx hb (htX14 hn) (fun _ h => h) hown hK hP k73_1 hk73_1 rfl 0 (by decide) (hn.get mw_2047 rfl) (fun _ h9 => h9) rfl dX16_decider_73 ?_
                    refine lv_if_ne (tgt := 83) hx hb dX16_decider_76 (by decide) (fun c76_1 => ?_) (fun c76_1 => absurd c76_1 (by decide))
                    exact b83  H locs ls  (lv_sub hl [1] rfl) hP hD hS
                  · have hfo73_1 := h1o73_1.1; have hxo73_1 := h1o73_1.2.1; have huo73_1 := SUB.tr h1o73_1.2.2.2.2 huo40_1
                    have r73_302 : rg o73_1z4 1 4 := rg_of hzo73_1
                    have hm73_303 := ST.nodeP hxo40_1 huo40_1 hfo73_1
                    have hk73_304 : FF (1 ≤ ((o73_1x4.sz : Nat) : Int)) := FF.mk (ST.sz_pos hxo73_1)
                    have hk73_305 : FF (0 ≤ ((o73_1x4.dep : Nat) : Int)) := FF.mk (Int.natCast_nonneg _)
                    have hk73_306 : FF (0 ≤ ((o73_1x4.c4 : Nat) : Int)) := FF.mk (Int.natCast_nonneg _)
                    have hk73_307 : FF (((o40_1x4.sz : Nat) : Int) = ((o73_1x4.sz : Nat) : Int) + 1) := FF.mk ((ST.is1_f h1o73_1).1)
                    have hk73_308 : FF (((o40_1x4.dep : Nat) : Int) = ((o73_1x4.dep : Nat) : Int) + 1) := FF.mk ((ST.is1_f h1o73_1).2)
                    have hk73_309 : FF (((o40_1x4.c4 : Nat) : Int) = ((o73_1x4.c4 : Nat) : Int)) := FF.mk (by omega)
                    have hk73_310 : FF (o73_1z4.toInt ≠ 4) := FF.mk hdo73_1
                    obtain ⟨k73_1, hk73_1⟩ := pl_get (X := []) hm73_303
                    refine va_get (D := D) (ci := 14) (v := .int 4) (C := RX14) (T := TX14) (N := 5) hx hb (htX14 hn) (fun _ h => h) hown hK hP k73_1 hk73_1 rfl 0 (by decide) (hn.get mw_2047 rfl) (fun _ h9 => h9) rfl dX16_decider_73 ?_
                    refine lv_if_ne (tgt := 83) hx hb dX16_decider_76 (by decide) (fun c76_1 => ?_) (fun c76_1 => absurd c76_1 (by decide))
                    exact b83  H locs ls  (lv_sub hl [1] rfl) hP hD hS
                  · have hfo73_1 := h1o73_1.1; have hxo73_1 := h1o73_1.2.1; have huo73_1 := SUB.tr h1o73_1.2.2.2.2 huo40_1
                    have hm73_352 := ST.nodeP hxo40_1 huo40_1 hfo73_1
                    have hk73_353 : FF (1 ≤ ((o73_1x5.sz : Nat) : Int)) := FF.mk (ST.sz_pos hxo73_1)
                    have hk73_354 : FF (0 ≤ ((o73_1x5.dep : Nat) : Int)) := FF.mk (Int.natCast_nonneg _)
                    have hk73_355 : FF (0 ≤ ((o73_1x5.c4 : Nat) : Int)) := FF.mk (Int.natCast_nonneg _)
                    have hk73_356 : FF (((o40_1x4.sz : Nat) : Int) = ((o73_1x5.sz : Nat) : Int) + 1) := FF.mk ((ST.is1_f h1o73_1).1)
                    have hk73_357 : FF (((o40_1x4.dep : Nat) : Int) = ((o73_1x5.dep : Nat) : Int) + 1) := FF.mk ((ST.is1_f h1o73_1).2)
                    have hk73_358 : FF (((o40_1x4.c4 : Nat) : Int) = ((o73_1x5.c4 : Nat) : Int)) := FF.mk (by omega)
                    obtain ⟨k73_1, hk73_1⟩ := pl_get (X := []) hm73_352
                    refine va_get (D := D) (ci := 14) (v := .int 5) (C := RX14) (T := TX14) (N := 5) hx hb (htX14 hn) (fun _ h => h) hown hK hP k73_1 hk73_1 rfl 0 (by decide) (hn.get mw_2047 rfl) (fun _ h9 => h9) rfl dX16_decider_73 ?_
                    refine lv_if_ne (tgt := 83) hx hb dX16_decider_76 (by decide) (fun c76_1 => ?_) (fun c76_1 => absurd c76_1 (by decide))
                    exact b83  H locs ls  (lv_sub hl [1] rfl) hP hD hS
            · have hfo40_1 := h1o40_1.1; have hxo40_1 := h1o40_1.2.1; have huo40_1 := SUB.tr h1o40_1.2.2.2.2 hu21_1002
              have r40_302 : rg o40_1z4 1 4 := rg_of hzo40_1
              have hm40_303 := ST.nodeP ht21_1001 hu21_1002 hfo40_1
              have hk40_304 : FF (1 ≤ ((o40_1x4.sz : Nat) : Int)) := FF.mk (ST.sz_pos hxo40_1)
              have hk40_305 : FF (0 ≤ ((o40_1x4.dep : Nat) : Int)) := FF.mk (Int.natCast_nonneg _)
              have hk40_306 : FF (0 ≤ ((o40_1x4.c4 : Nat) : Int)) := FF.mk (Int.natCast_nonneg _)
              have hk40_307 : FF (((j21_l1.sz : Nat) : Int) = ((o40_1x4.sz : Nat) : Int) + 1) := FF.mk ((ST.is1_f h1o40_1).1)
              have hk40_308 : FF (((j21_l1.dep : Nat) : Int) = ((o40_1x4.dep : Nat) : Int) + 1) := FF.mk ((ST.is1_f h1o40_1).2)
              have hk40_309 : FF (((j21_l1.c4 : Nat) : Int) = ((o40_1x4.c4 : Nat) : Int)) := FF.mk (by omega)
              have hk40_310 : FF (o40_1z4.toInt ≠ 4) := FF.mk hdo40_1
              obtain ⟨k40_1, hk40_1⟩ := pl_get (X := []) hm40_303
              refine va_get (D := D) (ci := 14) (v := .int 4) (C := RX14) (T := TX14) (N := 5) hx hb (htX14 hn) (fun _ h => h) hown hK hP k40_1 hk40_1 rfl 0 (by decide) (hn.get mw_2047 rfl) (fun _ h9 => h9) rfl dX16_decider_40 ?_
              refine lv_iconst (v := 4) hx hb dX16_decider_43 (by decide) ?_
              refine lv_icmp_ne (tgt := 83) hx hb dX16_decider_44 (by decide) (fun c44_1 => absurd (by decide) c44_1) (fun c44_1 => ?_)
              refine lv_aload_n hx hb dX16_decider_47 rfl (lv_at hl 1 rfl) ?_
              obtain ⟨k48_1, hk48_1⟩ := pl_get (X := []) hm40_303
              refine va_get (D := D) (ci := 14) (v := .long o40_1v4) (C := RX14) (T := TX14) (N := 5) hx hb (htX14 hn) (fun _ h => h) hown hK hP k48_1 hk48_1 rfl 1 (by decide) (hn.get mw_2049 rfl) (fun _ h9 => h9) rfl dX16_decider_48 ?_
              refine lv_ldc2 (v := 3) hx hb hown (hn.get mw_2239 rfl) dX16_decider_51 ?_
              refine W.lcmp hx hb dX16_decider_54 ?_
              refine lv_topi (fun z54_1 ez54_1 => ?_)
              refine lv_if_gt (tgt := 83) hx hb dX16_decider_55 (by decide) (fun c55_1 => ?_) (fun c55_1 => ?_)
              · have t55_2 := FF.mk (l_gt ez54_1 c55_1)
                have r55_3 : rl o40_1v4 4 9223372036854775807 := rl_ltB t55_2 (show rl (3 : Int64) 3 3 from rl_l (by decide)) (rl_any o40_1v4) (by decide)
                exact b83  H locs ls  (lv_sub hl [1] rfl) hP hD hS
              · have t55_2 := FF.mk (l_ngt ez54_1 c55_1)
                have r55_3 : rl o40_1v4 (-9223372036854775808) 3 := rl_leA t55_2 (rl_any o40_1v4) (show rl (3 : Int64) 3 3 from rl_l (by decide)) (by decide)
                refine lv_aload_n hx hb dX16_decider_58 rfl (lv_at hl 1 rfl) ?_
                obtain ⟨k59_1, hk59_1⟩ := pl_get (X := []) hm40_303
                refine va_get (D := D) (ci := 14) (v := .long o40_1v4) (C := RX14) (T := TX14) (N := 5) hx hb (htX14 hn) (fun _ h => h) hown hK hP k59_1 hk59_1 rfl 1 (by decide) (hn.get mw_2049 rfl) (fun _ h9 => h9) rfl dX16_decider_59 ?_
                refine lv_ldc2 (v := (-2)) hx hb hown (hn.get mw_2197 rfl) dX16_decider_62 ?_
                refine W.lcmp hx hb dX16_decider_65 ?_
                refine lv_topi (fun z65_1 ez65_1 => ?_)
                refine lv_if_eq (tgt := 83) hx hb dX16_decider_66 (by decide) (fun c66_1 => ?_) (fun c66_1 => ?_)
                · have t66_2 := FF.mk (l_eq ez65_1 c66_1)
                  have r66_3 : rl o40_1v4 (-2) (-2) := rl_eqA t66_2 r55_3 (show rl ((-2) : Int64) (-2) (-2) from rl_l (by decide)) (by decide)
                  exact b83  H locs ls  (lv_sub hl [1] rfl) hP hD hS
                · have t66_2 := FF.mk (l_neq ez65_1 c66_1)
                  refine lv_aload_n hx hb dX16_decider_69 rfl (lv_at hl 1 rfl) ?_
                  obtain ⟨k70_1, hk70_1⟩ := pl_get (X := []) hm40_303
                  refine va_get (D := D) (ci := 14) (v := .ref o40_1x4.root) (C := RX14) (T := TX14) (N := 5) hx hb (htX14 hn) (fun _ h => h) hown hK hP k70_1 hk70_1 rfl 2 (by decide) (hn.get mw_2051 rfl) (fun _ h9 => h9) rfl dX16_decider_70 ?_
                  rcases ST.cases_ hxo40_1 with ⟨o73_1v0, hfo73_1, hzo73_1, hdo73_1⟩ | ⟨o73_1v1, hfo73_1, hzo73_1, hdo73_1⟩ | ⟨o73_1v2, o73_1x2, o73_1y2, h2o73_1⟩ | ⟨o73_1x3, h1o73_1, hco73_1⟩ | ⟨o73_1v4, o73_1x4, o73_1z4, h1o73_1, hzo73_1, hdo73_1, hco73_1⟩ | ⟨o73_1v4, o73_1x4, o73_1z4, h1o73_1, hzo73_1, hdo73_1, hco73_1⟩ | ⟨o73_1x5, h1o73_1, hco73_1⟩
                  · have hm73_52 := ST.nodeP hxo40_1 huo40_1 hfo73_1
                    have hk73_53 : FF (((o40_1x4.sz : Nat) : Int) = 1) := FF.mk (by omega)
                    have hk73_54 : FF (((o40_1x4.c4 : Nat) : Int) = 0) := FF.mk (by omega)
                    obtain ⟨k73_1, hk73_1⟩ := pl_get (X := []) hm73_52
                    refine va_get (D := D) (ci := 14) (v := .int 0) (C := RX14) (T := TX14) (N := 5) hx hb (htX14 hn) (fun _ h => h) hown hK hP k73_1 hk73_1 rfl 0 (by decide) (hn.get mw_2047 rfl) (fun _ h9 => h9) rfl dX16_decider_73 ?_
                    refine lv_if_ne (tgt := 83) hx hb dX16_decider_76 (by decide) (fun c76_1 => absurd (by decide) c76_1) (fun c76_1 => ?_)
                    refine lv_iconst (v := 1) hx hb dX16_decider_79 (by decide) ?_
                    refine lv_goto (tgt := 84) hx hb dX16_decider_80 (by decide) ?_
                    refine lv_istore_n (lv' := [(2, .int 1), (0, .ref Y), (1, .ref j21_l1.root)]) hx hb dX16_decider_84 rfl hl (by decide) rfl (fun ls hl => ?_)
                    refine lv_iload_n hx hb dX16_decider_85 rfl (lv_at hl 0 rfl) ?_
                    refine lv_if_eq (tgt := 93) hx hb dX16_decider_86 (by decide) (fun c86_1 => absurd c86_1 (by decide)) (fun c86_1 => ?_)
                    refine lv_aload_n hx hb dX16_decider_89 rfl (lv_at hl 2 rfl) ?_
                    refine lv_goto (tgt := 94) hx hb dX16_decider_90 (by decide) ?_
                    exact et_q (SX := Unit) (pl1 := fun _ => pl) (some j21_l1.root) hQ hx hb hr hlocks dX16_decider_94 (0, 0) ⟨(DECr.some ht21_1001 hu21_1002 h1o40_1), (show ((0 : Nat) : Int) = 0 by omega), (show ((0 : Nat) : Int) = 0 by omega)⟩ hP hD hS [] (by decide) rfl (Nat.le_refl _) (Nat.le_refl _) (Nat.zero_le MC) (Nat.zero_le MS)
                  · have hm73_102 := ST.nodeP hxo40_1 huo40_1 hfo73_1
                    have hk73_103 : FF (((o40_1x4.sz : Nat) : Int) = 1) := FF.mk (by omega)
                    have hk73_104 : FF (((o40_1x4.c4 : Nat) : Int) = 0) := FF.mk (by omega)
                    obtain ⟨k73_1, hk73_1⟩ := pl_get (X := []) hm73_102
                    refine va_get (D := D) (ci := 14) (v := .int 1) (C := RX14) (T := TX14) (N := 5) hx hb (htX14 hn) (fun _ h => h) hown hK hP k73_1 hk73_1 rfl 0 (by decide) (hn.get mw_2047 rfl) (fun _ h9 => h9) rfl dX16_decider_73 ?_
                    refine lv_if_ne (tgt := 83) hx hb dX16_decider_76 (by decide) (fun c76_1 => ?_) (fun c76_1 => absurd c76_1 (by decide))
                    exact b83  H locs ls  (lv_sub hl [1] rfl) hP hD hS
                  · have h73_152f := h2o73_1.1; have h73_152x := h2o73_1.2.1; have h73_152y := h2o73_1.2.2.1; have h73_152u := SUB.tr h2o73_1.2.2.2.2.2.2.2.1 huo40_1; have h73_152w := SUB.tr h2o73_1.2.2.2.2.2.2.2.2 huo40_1
                    have hm73_153 := ST.nodeP hxo40_1 huo40_1 h73_152f
                    have hk73_154 : FF (1 ≤ ((o73_1x2.sz : Nat) : Int)) := FF.mk (ST.sz_pos h73_152x)
                    have hk73_155 : FF (0 ≤ ((o73_1x2.dep : Nat) : Int)) := FF.mk (Int.natCast_nonneg _)
                    have hk73_156 : FF (0 ≤ ((o73_1x2.c4 : Nat) : Int)) := FF.mk (Int.natCast_nonneg _)
                    have hk73_157 : FF (1 ≤ ((o73_1y2.sz : Nat) : Int)) := FF.mk (ST.sz_pos h73_152y)
                    have hk73_158 : FF (0 ≤ ((o73_1y2.dep : Nat) : Int)) := FF.mk (Int.natCast_nonneg _)
                    have hk73_159 : FF (0 ≤ ((o73_1y2.c4 : Nat) : Int)) := FF.mk (Int.natCast_nonneg _)
                    have hk73_160 : FF (((o40_1x4.sz : Nat) : Int) = ((o73_1x2.sz : Nat) : Int) + ((o73_1y2.sz : Nat) : Int) + 1) := FF.mk ((ST.is2_f h2o73_1).1)
                    have hk73_161 : FF (((o73_1x2.dep : Nat) : Int) ≤ ((o40_1x4.dep : Nat) : Int)) := FF.mk ((ST.is2_f h2o73_1).2.1)
                    have hk73_162 : FF (((o73_1y2.dep : Nat) : Int) + 1 ≤ ((o40_1x4.dep : Nat) : Int)) := FF.mk ((ST.is2_f h2o73_1).2.2.1)
                    have hk73_163 : FF (((o40_1x4.c4 : Nat) : Int) = ((o73_1x2.c4 : Nat) : Int) + ((o73_1y2.c4 : Nat) : Int)) := FF.mk ((ST.is2_f h2o73_1).2.2.2)
                    obtain ⟨k73_1, hk73_1⟩ := pl_get (X := []) hm73_153
                    refine va_get (D := D) (ci := 14) (v := .int 2) (C := RX14) (T := TX14) (N := 5) hx hb (htX14 hn) (fun _ h => h) hown hK hP k73_1 hk73_1 rfl 0 (by decide) (hn.get mw_2047 rfl) (fun _ h9 => h9) rfl dX16_decider_73 ?_
                    refine lv_if_ne (tgt := 83) hx hb dX16_decider_76 (by decide) (fun c76_1 => ?_) (fun c76_1 => absurd c76_1 (by decide))
                    exact b83  H locs ls  (lv_sub hl [1] rfl) hP hD hS
                  · have hfo73_1 := h1o73_1.1; have hxo73_1 := h1o73_1.2.1; have huo73_1 := SUB.tr h1o73_1.2.2.2.2 huo40_1
                    have hm73_202 := ST.nodeP hxo40_1 huo40_1 hfo73_1
                    have hk73_203 : FF (1 ≤ ((o73_1x3.sz : Nat) : Int)) := FF.mk (ST.sz_pos hxo73_1)
                    have hk73_204 : FF (0 ≤ ((o73_1x3.dep : Nat) : Int)) := FF.mk (Int.natCast_nonneg _)
                    have hk73_205 : FF (0 ≤ ((o73_1x3.c4 : Nat) : Int)) := FF.mk (Int.natCast_nonneg _)
                    have hk73_206 : FF (((o40_1x4.sz : Nat) : Int) = ((o73_1x3.sz : Nat) : Int) + 1) := FF.mk ((ST.is1_f h1o73_1).1)
                    have hk73_207 : FF (((o40_1x4.dep : Nat) : Int) = ((o73_1x3.dep : Nat) : Int) + 1) := FF.mk ((ST.is1_f h1o73_1).2)
                    have hk73_208 : FF (((o40_1x4.c4 : Nat) : Int) = ((o73_1x3.c4 : Nat) : Int)) := FF.mk (by omega)
                    obtain ⟨k73_1, hk73_1⟩ := pl_get (X := []) hm73_202
                    refine va_get (D := D) (ci := 14) (v := .int 3) (C := RX14) (T := TX14) (N := 5) hx hb (htX14 hn) (fun _ h => h) hown hK hP k73_1 hk73_1 rfl 0 (by decide) (hn.get mw_2047 rfl) (fun _ h9 => h9) rfl dX16_decider_73 ?_
                    refine lv_if_ne (tgt := 83) hx hb dX16_decider_76 (by decide) (fun c76_1 => ?_) (fun c76_1 => absurd c76_1 (by decide))
                    exact b83  H locs ls  (lv_sub hl [1] rfl) hP hD hS
                  · have hfo73_1 := h1o73_1.1; have hxo73_1 := h1o73_1.2.1; have huo73_1 := SUB.tr h1o73_1.2.2.2.2 huo40_1
                    have r73_252 : rg o73_1z4 1 4 := rg_of hzo73_1
                    have hm73_253 := ST.nodeP hxo40_1 huo40_1 hfo73_1
                    have hk73_254 : FF (1 ≤ ((o73_1x4.sz : Nat) : Int)) := FF.mk (ST.sz_pos hxo73_1)
                    have hk73_255 : FF (0 ≤ ((o73_1x4.dep : Nat) : Int)) := FF.mk (Int.natCast_nonneg _)
                    have hk73_256 : FF (0 ≤ ((o73_1x4.c4 : Nat) : Int)) := FF.mk (Int.natCast_nonneg _)
                    have hk73_257 : FF (((o40_1x4.sz : Nat) : Int) = ((o73_1x4.sz : Nat) : Int) + 1) := FF.mk ((ST.is1_f h1o73_1).1)
                    have hk73_258 : FF (((o40_1x4.dep : Nat) : Int) = ((o73_1x4.dep : Nat) : Int) + 1) := FF.mk ((ST.is1_f h1o73_1).2)
                    have hk73_259 : FF (((o40_1x4.c4 : Nat) : Int) = ((o73_1x4.c4 : Nat) : Int) + 1) := FF.mk (by omega)
                    have hk73_260 : FF (o73_1z4.toInt = 4) := FF.mk hdo73_1
                    obtain ⟨k73_1, hk73_1⟩ := pl_get (X := []) hm73_253
                    refine va_get (D := D) (ci := 14) (v := .int 4) (C := RX14) (T := TX14) (N := 5) hx hb (htX14 hn) (fun _ h => h) hown hK hP k73_1 hk73_1 rfl 0 (by decide) (hn.get mw_2047 rfl) (fun _ h9 => h9) rfl dX16_decider_73 ?_
                    refine lv_if_ne (tgt := 83) hx hb dX16_decider_76 (by decide) (fun c76_1 => ?_) (fun c76_1 => absurd c76_1 (by decide))
                    exact b83  H locs ls  (lv_sub hl [1] rfl) hP hD hS
                  · have hfo73_1 := h1o73_1.1; have hxo73_1 := h1o73_1.2.1; have huo73_1 := SUB.tr h1o73_1.2.2.2.2 huo40_1
                    have r73_302 : rg o73_1z4 1 4 := rg_of hzo73_1
                    have hm73_303 := ST.nodeP hxo40_1 huo40_1 hfo73_1
                    have hk73_304 : FF (1 ≤ ((o73_1x4.sz : Nat) : Int)) := FF.mk (ST.sz_pos hxo73_1)
                    have hk73_305 : FF (0 ≤ ((o73_1x4.dep : Nat) : Int)) := FF.mk (Int.natCast_nonneg _)
                    have hk73_306 : FF (0 ≤ ((o73_1x4.c4 : Nat) : Int)) := FF.mk (Int.natCast_nonneg _)
                    have hk73_307 : FF (((o40_1x4.sz : Nat) : Int) = ((o73_1x4.sz : Nat) : Int) + 1) := FF.mk ((ST.is1_f h1o73_1).1)
                    have hk73_308 : FF (((o40_1x4.dep : Nat) : Int) = ((o73_1x4.dep : Nat) : Int) + 1) := FF.mk ((ST.is1_f h1o73_1).2)
                    have hk73_309 : FF (((o40_1x4.c4 : Nat) : Int) = ((o73_1x4.c4 : Nat) : Int)) := FF.mk (by omega)
                    have hk73_310 : FF (o73_1z4.toInt ≠ 4) := FF.mk hdo73_1
                    obtain ⟨k73_1, hk73_1⟩ := pl_get (X := []) hm73_303
                    refine va_get (D := D) (ci := 14) (v := .int 4) (C := RX14) (T := TX14) (N := 5) hx hb (htX14 hn) (fun _ h => h) hown hK hP k73_1 hk73_1 rfl 0 (by decide) (hn.get mw_2047 rfl) (fun _ h9 => h9) rfl dX16_decider_73 ?_
                    refine lv_if_ne (tgt := 83) hx hb dX16_decider_76 (by decide) (fun c76_1 => ?_) (fun c76_1 => absurd c76_1 (by decide))
                    exact b83  H locs ls  (lv_sub hl [1] rfl) hP hD hS
                  · have hfo73_1 := h1o73_1.1; have hxo73_1 := h1o73_1.2.1; have huo73_1 := SUB.tr h1o73_1.2.2.2.2 huo40_1
                    have hm73_352 := ST.nodeP hxo40_1 huo40_1 hfo73_1
                    have hk73_353 : FF (1 ≤ ((o73_1x5.sz : Nat) : Int)) := FF.mk (ST.sz_pos hxo73_1)
                    have hk73_354 : FF (0 ≤ ((o73_1x5.dep : Nat) : Int)) := FF.mk (Int.natCast_nonneg _)
                    have hk73_355 : FF (0 ≤ ((o73_1x5.c4 : Nat) : Int)) := FF.mk (Int.natCast_nonneg _)
                    have hk73_356 : FF (((o40_1x4.sz : Nat) : Int) = ((o73_1x5.sz : Nat) : Int) + 1) := FF.mk ((ST.is1_f h1o73_1).1)
                    have hk73_357 : FF (((o40_1x4.dep : Nat) : Int) = ((o73_1x5.dep : Nat) : Int) + 1) := FF.mk ((ST.is1_f h1o73_1).2)
                    have hk73_358 : FF (((o40_1x4.c4 : Nat) : Int) = ((o73_1x5.c4 : Nat) : Int)) := FF.mk (by omega)
                    obtain ⟨k73_1, hk73_1⟩ := pl_get (X := []) hm73_352
                    refine va_get (D := D) (ci := 14) (v := .int 5) (C := RX14) (T := TX14) (N := 5) hx hb (htX14 hn) (fun _ h => h) hown hK hP k73_1 hk73_1 rfl 0 (by decide) (hn.get mw_2047 rfl) (fun _ h9 => h9) rfl dX16_decider_73 ?_
                    refine lv_if_ne (tgt := 83) hx hb dX16_decider_76 (by decide) (fun c76_1 => ?_) (fun c76_1 => absurd c76_1 (by decide))
                    exact b83  H locs ls  (lv_sub hl [1] rfl) hP hD hS
            · have hfo40_1 := h1o40_1.1; have hxo40_1 := h1o40_1.2.1; have huo40_1 := SUB.tr h1o40_1.2.2.2.2 hu21_1002
              have hm40_352 := ST.nodeP ht21_1001 hu21_1002 hfo40_1
              have hk40_353 : FF (1 ≤ ((o40_1x5.sz : Nat) : Int)) := FF.mk (ST.sz_pos hxo40_1)
              have hk40_354 : FF (0 ≤ ((o40_1x5.dep : Nat) : Int)) := FF.mk (Int.natCast_nonneg _)
              have hk40_355 : FF (0 ≤ ((o40_1x5.c4 : Nat) : Int)) := FF.mk (Int.natCast_nonneg _)
              have hk40_356 : FF (((j21_l1.sz : Nat) : Int) = ((o40_1x5.sz : Nat) : Int) + 1) := FF.mk ((ST.is1_f h1o40_1).1)
              have hk40_357 : FF (((j21_l1.dep : Nat) : Int) = ((o40_1x5.dep : Nat) : Int) + 1) := FF.mk ((ST.is1_f h1o40_1).2)
              have hk40_358 : FF (((j21_l1.c4 : Nat) : Int) = ((o40_1x5.c4 : Nat) : Int)) := FF.mk (by omega)
              obtain ⟨k40_1, hk40_1⟩ := pl_get (X := []) hm40_352
              refine va_get (D := D) (ci := 14) (v := .int 5) (C := RX14) (T := TX14) (N := 5) hx hb (htX14 hn) (fun _ h => h) hown hK hP k40_1 hk40_1 rfl 0 (by decide) (hn.get mw_2047 rfl) (fun _ h9 => h9) rfl dX16_decider_40 ?_
              refine lv_iconst (v := 4) hx hb dX16_decider_43 (by decide) ?_
              refine lv_icmp_ne (tgt := 83) hx hb dX16_decider_44 (by decide) (fun c44_1 => ?_) (fun c44_1 => absurd c44_1 (by decide))
              exact b83  H locs ls  (lv_sub hl [1] rfl) hP hD hS
          · have hm33_102 := ST.nodeP ok_r_Y su_r_Y hfo33_1
            have hk33_103 : FF (((r_Y.sz : Nat) : Int) = 1) := FF.mk (by omega)
            have hk33_104 : FF (((r_Y.c4 : Nat) : Int) = 0) := FF.mk (by omega)
            obtain ⟨k33_1, hk33_1⟩ := pl_get (X := []) hm33_102
            refine va_get (D := D) (ci := 14) (v := .int 1) (C := RX14) (T := TX14) (N := 5) hx hb (htX14 hn) (fun _ h => h) hown hK hP k33_1 hk33_1 rfl 0 (by decide) (hn.get mw_2047 rfl) (fun _ h9 => h9) rfl dX16_decider_33 ?_
            refine lv_if_ne (tgt := 83) hx hb dX16_decider_36 (by decide) (fun c36_1 => ?_) (fun c36_1 => absurd c36_1 (by decide))
            exact b83  H locs ls  (lv_sub hl [1] rfl) hP hD hS
          · have h33_152f := h2o33_1.1; have h33_152x := h2o33_1.2.1; have h33_152y := h2o33_1.2.2.1; have h33_152u := SUB.tr h2o33_1.2.2.2.2.2.2.2.1 su_r_Y; have h33_152w := SUB.tr h2o33_1.2.2.2.2.2.2.2.2 su_r_Y
            have hm33_153 := ST.nodeP ok_r_Y su_r_Y h33_152f
            have hk33_154 : FF (1 ≤ ((o33_1x2.sz : Nat) : Int)) := FF.mk (ST.sz_pos h33_152x)
            have hk33_155 : FF (0 ≤ ((o33_1x2.dep : Nat) : Int)) := FF.mk (Int.natCast_nonneg _)
            have hk33_156 : FF (0 ≤ ((o33_1x2.c4 : Nat) : Int)) := FF.mk (Int.natCast_nonneg _)
            have hk33_157 : FF (1 ≤ ((o33_1y2.sz : Nat) : Int)) := FF.mk (ST.sz_pos h33_152y)
            have hk33_158 : FF (0 ≤ ((o33_1y2.dep : Nat) : Int)) := FF.mk (Int.natCast_nonneg _)
            have hk33_159 : FF (0 ≤ ((o33_1y2.c4 : Nat) : Int)) := FF.mk (Int.natCast_nonneg _)
            have hk33_160 : FF (((r_Y.sz : Nat) : Int) = ((o33_1x2.sz : Nat) : Int) + ((o33_1y2.sz : Nat) : Int) + 1) := FF.mk ((ST.is2_f h2o33_1).1)
            have hk33_161 : FF (((o33_1x2.dep : Nat) : Int) ≤ ((r_Y.dep : Nat) : Int)) := FF.mk ((ST.is2_f h2o33_1).2.1)
            have hk33_162 : FF (((o33_1y2.dep : Nat) : Int) + 1 ≤ ((r_Y.dep : Nat) : Int)) := FF.mk ((ST.is2_f h2o33_1).2.2.1)
            have hk33_163 : FF (((r_Y.c4 : Nat) : Int) = ((o33_1x2.c4 : Nat) : Int) + ((o33_1y2.c4 : Nat) : Int)) := FF.mk ((ST.is2_f h2o33_1).2.2.2)
            obtain ⟨k33_1, hk33_1⟩ := pl_get (X := []) hm33_153
            refine va_get (D := D) (ci := 14) (v := .int 2) (C := RX14) (T := TX14) (N := 5) hx hb (htX14 hn) (fun _ h => h) hown hK hP k33_1 hk33_1 rfl 0 (by decide) (hn.get mw_2047 rfl) (fun _ h9 => h9) rfl dX16_decider_33 ?_
            refine lv_if_ne (tgt := 83) hx hb dX16_decider_36 (by decide) (fun c36_1 => ?_) (fun c36_1 => absurd c36_1 (by decide))
            exact b83  H locs ls  (lv_sub hl [1] rfl) hP hD hS
          · have hfo33_1 := h1o33_1.1; have hxo33_1 := h1o33_1.2.1; have huo33_1 := SUB.tr h1o33_1.2.2.2.2 su_r_Y
            have hm33_202 := ST.nodeP ok_r_Y su_r_Y hfo33_1
            have hk33_203 : FF (1 ≤ ((o33_1x3.sz : Nat) : Int)) := FF.mk (ST.sz_pos hxo33_1)
            have hk33_204 : FF (0 ≤ ((o33_1x3.dep : Nat) : Int)) := FF.mk (Int.natCast_nonneg _)
            have hk33_205 : FF (0 ≤ ((o33_1x3.c4 : Nat) : Int)) := FF.mk (Int.natCast_nonneg _)
            have hk33_206 : FF (((r_Y.sz : Nat) : Int) = ((o33_1x3.sz : Nat) : Int) + 1) := FF.mk ((ST.is1_f h1o33_1).1)
            have hk33_207 : FF (((r_Y.dep : Nat) : Int) = ((o33_1x3.dep : Nat) : Int) + 1) := FF.mk ((ST.is1_f h1o33_1).2)
            have hk33_208 : FF (((r_Y.c4 : Nat) : Int) = ((o33_1x3.c4 : Nat) : Int)) := FF.mk (by omega)
            obtain ⟨k33_1, hk33_1⟩ := pl_get (X := []) hm33_202
            refine va_get (D := D) (ci := 14) (v := .int 3) (C := RX14) (T := TX14) (N := 5) hx hb (htX14 hn) (fun _ h => h) hown hK hP k33_1 hk33_1 rfl 0 (by decide) (hn.get mw_2047 rfl) (fun _ h9 => h9) rfl dX16_decider_33 ?_
            refine lv_if_ne (tgt := 83) hx hb dX16_decider_36 (by decide) (fun c36_1 => ?_) (fun c36_1 => absurd c36_1 (by decide))
            exact b83  H locs ls  (lv_sub hl [1] rfl) hP hD hS
          · have hfo33_1 := h1o33_1.1; have hxo33_1 := h1o33_1.2.1; have huo33_1 := SUB.tr h1o33_1.2.2.2.2 su_r_Y
            have r33_252 : rg o33_1z4 1 4 := rg_of hzo33_1
            have hm33_253 := ST.nodeP ok_r_Y su_r_Y hfo33_1
            have hk33_254 : FF (1 ≤ ((o33_1x4.sz : Nat) : Int)) := FF.mk (ST.sz_pos hxo33_1)
            have hk33_255 : FF (0 ≤ ((o33_1x4.dep : Nat) : Int)) := FF.mk (Int.natCast_nonneg _)
            have hk33_256 : FF (0 ≤ ((o33_1x4.c4 : Nat) : Int)) := FF.mk (Int.natCast_nonneg _)
            have hk33_257 : FF (((r_Y.sz : Nat) : Int) = ((o33_1x4.sz : Nat) : Int) + 1) := FF.mk ((ST.is1_f h1o33_1).1)
            have hk33_258 : FF (((r_Y.dep : Nat) : Int) = ((o33_1x4.dep : Nat) : Int) + 1) := FF.mk ((ST.is1_f h1o33_1).2)
            have hk33_259 : FF (((r_Y.c4 : Nat) : Int) = ((o33_1x4.c4 : Nat) : Int) + 1) := FF.mk (by omega)
            have hk33_260 : FF (o33_1z4.toInt = 4) := FF.mk hdo33_1
            obtain ⟨k33_1, hk33_1⟩ := pl_get (X := []) hm33_253
            refine va_get (D := D) (ci := 14) (v := .int 4) (C := RX14) (T := TX14) (N := 5) hx hb (htX14 hn) (fun _ h => h) hown hK hP k33_1 hk33_1 rfl 0 (by decide) (hn.get mw_2047 rfl) (fun _ h9 => h9) rfl dX16_decider_33 ?_
            refine lv_if_ne (tgt := 83) hx hb dX16_decider_36 (by decide) (fun c36_1 => ?_) (fun c36_1 => absurd c36_1 (by decide))
            exact b83  H locs ls  (lv_sub hl [1] rfl) hP hD hS
          · have hfo33_1 := h1o33_1.1; have hxo33_1 := h1o33_1.2.1; have huo33_1 := SUB.tr h1o33_1.2.2.2.2 su_r_Y
            have r33_302 : rg o33_1z4 1 4 := rg_of hzo33_1
            have hm33_303 := ST.nodeP ok_r_Y su_r_Y hfo33_1
            have hk33_304 : FF (1 ≤ ((o33_1x4.sz : Nat) : Int)) := FF.mk (ST.sz_pos hxo33_1)
            have hk33_305 : FF (0 ≤ ((o33_1x4.dep : Nat) : Int)) := FF.mk (Int.natCast_nonneg _)
            have hk33_306 : FF (0 ≤ ((o33_1x4.c4 : Nat) : Int)) := FF.mk (Int.natCast_nonneg _)
            have hk33_307 : FF (((r_Y.sz : Nat) : Int) = ((o33_1x4.sz : Nat) : Int) + 1) := FF.mk ((ST.is1_f h1o33_1).1)
            have hk33_308 : FF (((r_Y.dep : Nat) : Int) = ((o33_1x4.dep : Nat) : Int) + 1) := FF.mk ((ST.is1_f h1o33_1).2)
            have hk33_309 : FF (((r_Y.c4 : Nat) : Int) = ((o33_1x4.c4 : Nat) : Int)) := FF.mk (by omega)
            have hk33_310 : FF (o33_1z4.toInt ≠ 4) := FF.mk hdo33_1
            obtain ⟨k33_1, hk33_1⟩ := pl_get (X := []) hm33_303
            refine va_get (D := D) (ci := 14) (v := .int 4) (C := RX14) (T := TX14) (N := 5) hx hb (htX14 hn) (fun _ h => h) hown hK hP k33_1 hk33_1 rfl 0 (by decide) (hn.get mw_2047 rfl) (fun _ h9 => h9) rfl dX16_decider_33 ?_
            refine lv_if_ne (tgt := 83) hx hb dX16_decider_36 (by decide) (fun c36_1 => ?_) (fun c36_1 => absurd c36_1 (by decide))
            exact b83  H locs ls  (lv_sub hl [1] rfl) hP hD hS
          · have hfo33_1 := h1o33_1.1; have hxo33_1 := h1o33_1.2.1; have huo33_1 := SUB.tr h1o33_1.2.2.2.2 su_r_Y
            have hm33_352 := ST.nodeP ok_r_Y su_r_Y hfo33_1
            have hk33_353 : FF (1 ≤ ((o33_1x5.sz : Nat) : Int)) := FF.mk (ST.sz_pos hxo33_1)
            have hk33_354 : FF (0 ≤ ((o33_1x5.dep : Nat) : Int)) := FF.mk (Int.natCast_nonneg _)
            have hk33_355 : FF (0 ≤ ((o33_1x5.c4 : Nat) : Int)) := FF.mk (Int.natCast_nonneg _)
            have hk33_356 : FF (((r_Y.sz : Nat) : Int) = ((o33_1x5.sz : Nat) : Int) + 1) := FF.mk ((ST.is1_f h1o33_1).1)
            have hk33_357 : FF (((r_Y.dep : Nat) : Int) = ((o33_1x5.dep : Nat) : Int) + 1) := FF.mk ((ST.is1_f h1o33_1).2)
            have hk33_358 : FF (((r_Y.c4 : Nat) : Int) = ((o33_1x5.c4 : Nat) : Int)) := FF.mk (by omega)
            obtain ⟨k33_1, hk33_1⟩ := pl_get (X := []) hm33_352
            refine va_get (D := D) (ci := 14) (v := .int 5) (C := RX14) (T := TX14) (N := 5) hx hb (htX14 hn) (fun _ h => h) hown hK hP k33_1 hk33_1 rfl 0 (by decide) (hn.get mw_2047 rfl) (fun _ h9 => h9) rfl dX16_decider_33 ?_
            refine lv_if_ne (tgt := 83) hx hb dX16_decider_36 (by decide) (fun c36_1 => ?_) (fun c36_1 => absurd c36_1 (by decide))
            exact b83  H locs ls  (lv_sub hl [1] rfl) hP hD hS
      refine lv_aload_n hx hb dX16_decider_5 rfl (lv_at hl 1 rfl) ?_
      rcases ST.cases_ ht5_1001 with ⟨o6_1v0, hfo6_1, hzo6_1, hdo6_1⟩ | ⟨o6_1v1, hfo6_1, hzo6_1, hdo6_1⟩ | ⟨o6_1v2, o6_1x2, o6_1y2, h2o6_1⟩ | ⟨o6_1x3, h1o6_1, hco6_1⟩ | ⟨o6_1v4, o6_1x4, o6_1z4, h1o6_1, hzo6_1, hdo6_1, hco6_1⟩ | ⟨o6_1v4, o6_1x4, o6_1z4, h1o6_1, hzo6_1, hdo6_1, hco6_1⟩ | ⟨o6_1x5, h1o6_1, hco6_1⟩
      · have hm6_52 := ST.nodeP ht5_1001 hu5_1002 hfo6_1
        have hk6_53 : FF (((j5_l1.sz : Nat) : Int) = 1) := FF.mk (by omega)
        have hk6_54 : FF (((j5_l1.c4 : Nat) : Int) = 0) := FF.mk (by omega)
        obtain ⟨k6_1, hk6_1⟩ := pl_get (X := []) hm6_52
        refine va_get (D := D) (ci := 14) (v := .int 0) (C := RX14) (T := TX14) (N := 5) hx hb (htX14 hn) (fun _ h => h) hown hK hP k6_1 hk6_1 rfl 0 (by decide) (hn.get mw_2047 rfl) (fun _ h9 => h9) rfl dX16_decider_6 ?_
        refine lv_iconst (v := 5) hx hb dX16_decider_9 (by decide) ?_
        refine lv_icmp_ne (tgt := 21) hx hb dX16_decider_10 (by decide) (fun c10_1 => ?_) (fun c10_1 => absurd c10_1 (by decide))
        exact b21 j5_l1 H locs ls ht5_1001 hu5_1002 (lv_sub hl [0, 1] rfl) hP hD hS
      · have hm6_102 := ST.nodeP ht5_1001 hu5_1002 hfo6_1
        have hk6_103 : FF (((j5_l1.sz : Nat) : Int) = 1) := FF.mk (by omega)
        have hk6_104 : FF (((j5_l1.c4 : Nat) : Int) = 0) := FF.mk (by omega)
        obtain ⟨k6_1, hk6_1⟩ := pl_get (X := []) hm6_102
        refine va_get (D := D) (ci := 14) (v := .int 1) (C := RX14) (T := TX14) (N := 5) hx hb (htX14 hn) (fun _ h => h) hown hK hP k6_1 hk6_1 rfl 0 (by decide) (hn.get mw_2047 rfl) (fun _ h9 => h9) rfl dX16_decider_6 ?_
        refine lv_iconst (v := 5) hx hb dX16_decider_9 (by decide) ?_
        refine lv_icmp_ne (tgt := 21) hx hb dX16_decider_10 (by decide) (fun c10_1 => ?_) (fun c10_1 => absurd c10_1 (by decide))
        exact b21 j5_l1 H locs ls ht5_1001 hu5_1002 (lv_sub hl [0, 1] rfl) hP hD hS
      · have h6_152f := h2o6_1.1; have h6_152x := h2o6_1.2.1; have h6_152y := h2o6_1.2.2.1; have h6_152u := SUB.tr h2o6_1.2.2.2.2.2.2.2.1 hu5_1002; have h6_152w := SUB.tr h2o6_1.2.2.2.2.2.2.2.2 hu5_1002
        have hm6_153 := ST.nodeP ht5_1001 hu5_1002 h6_152f
        have hk6_154 : FF (1 ≤ ((o6_1x2.sz : Nat) : Int)) := FF.mk (ST.sz_pos h6_152x)
        have hk6_155 : FF (0 ≤ ((o6_1x2.dep : Nat) : Int)) := FF.mk (Int.natCast_nonneg _)
        have hk6_156 : FF (0 ≤ ((o6_1x2.c4 : Nat) : Int)) := FF.mk (Int.natCast_nonneg _)
        have hk6_157 : FF (1 ≤ ((o6_1y2.sz : Nat) : Int)) := FF.mk (ST.sz_pos h6_152y)
        have hk6_158 : FF (0 ≤ ((o6_1y2.dep : Nat) : Int)) := FF.mk (Int.natCast_nonneg _)
        have hk6_159 : FF (0 ≤ ((o6_1y2.c4 : Nat) : Int)) := FF.mk (Int.natCast_nonneg _)
        have hk6_160 : FF (((j5_l1.sz : Nat) : Int) = ((o6_1x2.sz : Nat) : Int) + ((o6_1y2.sz : Nat) : Int) + 1) := FF.mk ((ST.is2_f h2o6_1).1)
        have hk6_161 : FF (((o6_1x2.dep : Nat) : Int) ≤ ((j5_l1.dep : Nat) : Int)) := FF.mk ((ST.is2_f h2o6_1).2.1)
        have hk6_162 : FF (((o6_1y2.dep : Nat) : Int) + 1 ≤ ((j5_l1.dep : Nat) : Int)) := FF.mk ((ST.is2_f h2o6_1).2.2.1)
        have hk6_163 : FF (((j5_l1.c4 : Nat) : Int) = ((o6_1x2.c4 : Nat) : Int) + ((o6_1y2.c4 : Nat) : Int)) := FF.mk ((ST.is2_f h2o6_1).2.2.2)
        obtain ⟨k6_1, hk6_1⟩ := pl_get (X := []) hm6_153
        refine va_get (D := D) (ci := 14) (v := .int 2) (C := RX14) (T := TX14) (N := 5) hx hb (htX14 hn) (fun _ h => h) hown hK hP k6_1 hk6_1 rfl 0 (by decide) (hn.get mw_2047 rfl) (fun _ h9 => h9) rfl dX16_decider_6 ?_
        refine lv_iconst (v := 5) hx hb dX16_decider_9 (by decide) ?_
        refine lv_icmp_ne (tgt := 21) hx hb dX16_decider_10 (by decide) (fun c10_1 => ?_) (fun c10_1 => absurd c10_1 (by decide))
        exact b21 j5_l1 H locs ls ht5_1001 hu5_1002 (lv_sub hl [0, 1] rfl) hP hD hS
      · have hfo6_1 := h1o6_1.1; have hxo6_1 := h1o6_1.2.1; have huo6_1 := SUB.tr h1o6_1.2.2.2.2 hu5_1002
        have hm6_202 := ST.nodeP ht5_1001 hu5_1002 hfo6_1
        have hk6_203 : FF (1 ≤ ((o6_1x3.sz : Nat) : Int)) := FF.mk (ST.sz_pos hxo6_1)
        have hk6_204 : FF (0 ≤ ((o6_1x3.dep : Nat) : Int)) := FF.mk (Int.natCast_nonneg _)
        have hk6_205 : FF (0 ≤ ((o6_1x3.c4 : Nat) : Int)) := FF.mk (Int.natCast_nonneg _)
        have hk6_206 : FF (((j5_l1.sz : Nat) : Int) = ((o6_1x3.sz : Nat) : Int) + 1) := FF.mk ((ST.is1_f h1o6_1).1)
        have hk6_207 : FF (((j5_l1.dep : Nat) : Int) = ((o6_1x3.dep : Nat) : Int) + 1) := FF.mk ((ST.is1_f h1o6_1).2)
        have hk6_208 : FF (((j5_l1.c4 : Nat) : Int) = ((o6_1x3.c4 : Nat) : Int)) := FF.mk (by omega)
        obtain ⟨k6_1, hk6_1⟩ := pl_get (X := []) hm6_202
        refine va_get (D := D) (ci := 14) (v := .int 3) (C := RX14) (T := TX14) (N := 5) hx hb (htX14 hn) (fun _ h => h) hown hK hP k6_1 hk6_1 rfl 0 (by decide) (hn.get mw_2047 rfl) (fun _ h9 => h9) rfl dX16_decider_6 ?_
        refine lv_iconst (v := 5) hx hb dX16_decider_9 (by decide) ?_
        refine lv_icmp_ne (tgt := 21) hx hb dX16_decider_10 (by decide) (fun c10_1 => ?_) (fun c10_1 => absurd c10_1 (by decide))
        exact b21 j5_l1 H locs ls ht5_1001 hu5_1002 (lv_sub hl [0, 1] rfl) hP hD hS
      · have hfo6_1 := h1o6_1.1; have hxo6_1 := h1o6_1.2.1; have huo6_1 := SUB.tr h1o6_1.2.2.2.2 hu5_1002
        have r6_252 : rg o6_1z4 1 4 := rg_of hzo6_1
        have hm6_253 := ST.nodeP ht5_1001 hu5_1002 hfo6_1
        have hk6_254 : FF (1 ≤ ((o6_1x4.sz : Nat) : Int)) := FF.mk (ST.sz_pos hxo6_1)
        have hk6_255 : FF (0 ≤ ((o6_1x4.dep : Nat) : Int)) := FF.mk (Int.natCast_nonneg _)
        have hk6_256 : FF (0 ≤ ((o6_1x4.c4 : Nat) : Int)) := FF.mk (Int.natCast_nonneg _)
        have hk6_257 : FF (((j5_l1.sz : Nat) : Int) = ((o6_1x4.sz : Nat) : Int) + 1) := FF.mk ((ST.is1_f h1o6_1).1)
        have hk6_258 : FF (((j5_l1.dep : Nat) : Int) = ((o6_1x4.dep : Nat) : Int) + 1) := FF.mk ((ST.is1_f h1o6_1).2)
        have hk6_259 : FF (((j5_l1.c4 : Nat) : Int) = ((o6_1x4.c4 : Nat) : Int) + 1) := FF.mk (by omega)
        have hk6_260 : FF (o6_1z4.toInt = 4) := FF.mk hdo6_1
        obtain ⟨k6_1, hk6_1⟩ := pl_get (X := []) hm6_253
        refine va_get (D := D) (ci := 14) (v := .int 4) (C := RX14) (T := TX14) (N := 5) hx hb (htX14 hn) (fun _ h => h) hown hK hP k6_1 hk6_1 rfl 0 (by decide) (hn.get mw_2047 rfl) (fun _ h9 => h9) rfl dX16_decider_6 ?_
        refine lv_iconst (v := 5) hx hb dX16_decider_9 (by decide) ?_
        refine lv_icmp_ne (tgt := 21) hx hb dX16_decider_10 (by decide) (fun c10_1 => ?_) (fun c10_1 => absurd c10_1 (by decide))
        exact b21 j5_l1 H locs ls ht5_1001 hu5_1002 (lv_sub hl [0, 1] rfl) hP hD hS
      · have hfo6_1 := h1o6_1.1; have hxo6_1 := h1o6_1.2.1; have huo6_1 := SUB.tr h1o6_1.2.2.2.2 hu5_1002
        have r6_302 : rg o6_1z4 1 4 := rg_of hzo6_1
        have hm6_303 := ST.nodeP ht5_1001 hu5_1002 hfo6_1
        have hk6_304 : FF (1 ≤ ((o6_1x4.sz : Nat) : Int)) := FF.mk (ST.sz_pos hxo6_1)
        have hk6_305 : FF (0 ≤ ((o6_1x4.dep : Nat) : Int)) := FF.mk (Int.natCast_nonneg _)
        have hk6_306 : FF (0 ≤ ((o6_1x4.c4 : Nat) : Int)) := FF.mk (Int.natCast_nonneg _)
        have hk6_307 : FF (((j5_l1.sz : Nat) : Int) = ((o6_1x4.sz : Nat) : Int) + 1) := FF.mk ((ST.is1_f h1o6_1).1)
        have hk6_308 : FF (((j5_l1.dep : Nat) : Int) = ((o6_1x4.dep : Nat) : Int) + 1) := FF.mk ((ST.is1_f h1o6_1).2)
        have hk6_309 : FF (((j5_l1.c4 : Nat) : Int) = ((o6_1x4.c4 : Nat) : Int)) := FF.mk (by omega)
        have hk6_310 : FF (o6_1z4.toInt ≠ 4) := FF.mk hdo6_1
        obtain ⟨k6_1, hk6_1⟩ := pl_get (X := []) hm6_303
        refine va_get (D := D) (ci := 14) (v := .int 4) (C := RX14) (T := TX14) (N := 5) hx hb (htX14 hn) (fun _ h => h) hown hK hP k6_1 hk6_1 rfl 0 (by decide) (hn.get mw_2047 rfl) (fun _ h9 => h9) rfl dX16_decider_6 ?_
        refine lv_iconst (v := 5) hx hb dX16_decider_9 (by decide) ?_
        refine lv_icmp_ne (tgt := 21) hx hb dX16_decider_10 (by decide) (fun c10_1 => ?_) (fun c10_1 => absurd c10_1 (by decide))
        exact b21 j5_l1 H locs ls ht5_1001 hu5_1002 (lv_sub hl [0, 1] rfl) hP hD hS
      · have hfo6_1 := h1o6_1.1; have hxo6_1 := h1o6_1.2.1; have huo6_1 := SUB.tr h1o6_1.2.2.2.2 hu5_1002
        have hm6_352 := ST.nodeP ht5_1001 hu5_1002 hfo6_1
        have hk6_353 : FF (1 ≤ ((o6_1x5.sz : Nat) : Int)) := FF.mk (ST.sz_pos hxo6_1)
        have hk6_354 : FF (0 ≤ ((o6_1x5.dep : Nat) : Int)) := FF.mk (Int.natCast_nonneg _)
        have hk6_355 : FF (0 ≤ ((o6_1x5.c4 : Nat) : Int)) := FF.mk (Int.natCast_nonneg _)
        have hk6_356 : FF (((j5_l1.sz : Nat) : Int) = ((o6_1x5.sz : Nat) : Int) + 1) := FF.mk ((ST.is1_f h1o6_1).1)
        have hk6_357 : FF (((j5_l1.dep : Nat) : Int) = ((o6_1x5.dep : Nat) : Int) + 1) := FF.mk ((ST.is1_f h1o6_1).2)
        have hk6_358 : FF (((j5_l1.c4 : Nat) : Int) = ((o6_1x5.c4 : Nat) : Int)) := FF.mk (by omega)
        obtain ⟨k6_1, hk6_1⟩ := pl_get (X := []) hm6_352
        refine va_get (D := D) (ci := 14) (v := .int 5) (C := RX14) (T := TX14) (N := 5) hx hb (htX14 hn) (fun _ h => h) hown hK hP k6_1 hk6_1 rfl 0 (by decide) (hn.get mw_2047 rfl) (fun _ h9 => h9) rfl dX16_decider_6 ?_
        refine lv_iconst (v := 5) hx hb dX16_decider_9 (by decide) ?_
        refine lv_icmp_ne (tgt := 21) hx hb dX16_decider_10 (by decide) (fun c10_1 => absurd (by decide) c10_1) (fun c10_1 => ?_)
        refine lv_aload_n hx hb dX16_decider_13 rfl (lv_at hl 1 rfl) ?_
        obtain ⟨k14_1, hk14_1⟩ := pl_get (X := []) hm6_352
        refine va_get (D := D) (ci := 14) (v := .ref o6_1x5.root) (C := RX14) (T := TX14) (N := 5) hx hb (htX14 hn) (fun _ h => h) hown hK hP k14_1 hk14_1 rfl 2 (by decide) (hn.get mw_2051 rfl) (fun _ h9 => h9) rfl dX16_decider_14 ?_
        refine lv_astore_n (lv' := [(1, .ref o6_1x5.root), (0, .ref Y)]) hx hb dX16_decider_17 rfl hl (by decide) rfl (fun ls hl => ?_)
        refine lv_goto (tgt := 5) hx hb dX16_decider_18 (by decide) ?_
        exact ih5 o6_1x5 H locs ls hxo6_1 huo6_1 (show (((o6_1x5.sz : Nat) : Int)).toNat < n5 by have q0 := FF.out hk6_353; have q1 := FF.out hk6_356; have q2 := hms5; omega) (lv_sub hl [1, 0] rfl) hP hD hS
  exact b5 _ l_Y H locs ls ok_l_Y su_l_Y (Nat.lt_succ_self _) (lv_sub hl [1, 0] rfl) hP hD hS
set_option maxHeartbeats 2000000 in
theorem c_X16_placeOf (l : Launch) (hst : l.stackTraces = false) (D : va_G) (ct : Nat → ClassId) (MC : Nat) (MS : Nat) (pl : va_W) (Y : ST) (v_Y : Int64) (x_Y : ST) (z_Y : Int32) (ok_Y : Y.ok) (su_Y : SUB Y.cells pl) (h1_Y : Y.is1 4 v_Y x_Y z_Y) : KP (V := Int64) (S := Nat × Nat) (SX := Unit) l yX16_placeOf cX16_placeOf 1 (some .long) 1 20 D ct [.ref Y.root] ([] ++ pl) MC MS (fun r : Int64 => some (.long r)) (fun (r : Int64) (u : Nat × Nat) => match u with | (kc, kn) => rl r 0 4294967295 ∧ (((kc : Nat) : Int) = 0) ∧ (((kn : Nat) : Int) = 0)) (fun (u : Nat × Nat) => (match u with | (kc, kn) => []) ++ pl) (fun (u : Nat × Nat) => match u with | (kc, kn) => kc) (fun (u : Nat × Nat) => match u with | (kc, kn) => kn) 15 RX15 peW (fun _ => False) (fun _ => ([] : va_W) ++ pl) (fun _ => 0) (fun _ => 0) := by
  refine KP_of (by decide) (Nat.le_of_ble_eq_true rfl) (fun p e s m below meth c A Q C0 htab hA H locs hS hP hD hQ ls hl => ?_)
  obtain ⟨hx, hb, hr, hown, hin, hml, hlocks, hn, hK, hZ, hSK⟩ := C0
  have hl : lv_has ls 1 [(0, .ref Y.root)] := hl
  have h0_1f := h1_Y.1; have h0_1x := h1_Y.2.1; have h0_1u := SUB.tr h1_Y.2.2.2.2 su_Y
  have hm0_2 := ST.nodeP ok_Y su_Y h0_1f
  have hk0_3 : FF (1 ≤ ((x_Y.sz : Nat) : Int)) := FF.mk (ST.sz_pos h0_1x)
  have hk0_4 : FF (0 ≤ ((x_Y.dep : Nat) : Int)) := FF.mk (Int.natCast_nonneg _)
  have hk0_5 : FF (0 ≤ ((x_Y.c4 : Nat) : Int)) := FF.mk (Int.natCast_nonneg _)
  have hk0_6 : FF (((Y.sz : Nat) : Int) = ((x_Y.sz : Nat) : Int) + 1) := FF.mk ((ST.is1_f h1_Y).1)
  have hk0_7 : FF (((Y.dep : Nat) : Int) = ((x_Y.dep : Nat) : Int) + 1) := FF.mk ((ST.is1_f h1_Y).2)
  refine lv_aload_n hx hb dX16_placeOf_0 rfl (lv_at hl 0 rfl) ?_
  obtain ⟨k1_1, hk1_1⟩ := pl_get (X := []) hm0_2
  refine va_get (D := D) (ci := 14) (v := .long v_Y) (C := RX14) (T := TX14) (N := 5) hx hb (htX14 hn) (fun _ h => h) hown hK hP k1_1 hk1_1 rfl 1 (by decide) (hn.get mw_2049 rfl) (fun _ h9 => h9) rfl dX16_placeOf_1 ?_
  refine lv_ldc2 (v := (-1)) hx hb hown (hn.get mw_1798 rfl) dX16_placeOf_4 ?_
  refine W.lcmp hx hb dX16_placeOf_7 ?_
  refine lv_topi (fun z7_1 ez7_1 => ?_)
  have b27 : ∀ (j27_s0 : Int64) (H : Heap) (locs : List Loc) (ls : Array Slot), (rl j27_s0 0 14) → lv_has ls 1 [(0, .ref Y.root)] → va_P D vwCl ([] ++ (pl)) H → va_D A ([] ++ (pl)) → va_S A s.heap H locs → W p l e ({ frames := 1, cells := MC, slots := MS, locals := 20 }) s m [.ref Y.root].toArray below meth c H locs 0 0 Q (F0 m 27 ls [.long j27_s0]) := by
    intro j27_s0 H locs ls r27_1001 hl hP hD hS
    refine lv_aload_n hx hb dX16_placeOf_27 rfl (lv_at hl 0 rfl) ?_
    obtain ⟨k28_1, hk28_1⟩ := pl_get (X := []) hm0_2
    refine va_get (D := D) (ci := 14) (v := .ref x_Y.root) (C := RX14) (T := TX14) (N := 5) hx hb (htX14 hn) (fun _ h => h) hown hK hP k28_1 hk28_1 rfl 2 (by decide) (hn.get mw_2051 rfl) (fun _ h9 => h9) rfl dX16_placeOf_28 ?_
    obtain ⟨y31_1k, y31_1v, y31_1a, y31_1b, y31_1z, fy31_1⟩ := ST.any_ h0_1x
    have my31_1 := ST.nodeP h0_1x h0_1u fy31_1
    obtain ⟨y31_1, hy31_1⟩ := pl_get (X := []) my31_1
    refine va_get (D := D) (ci := 14) (v := .long y31_1v) (C := RX14) (T := TX14) (N := 5) hx hb (htX14 hn) (fun _ h => h) hown hK hP y31_1 hy31_1 rfl 1 (by decide) (hn.get mw_2049 rfl) (fun _ h9 => h9) rfl dX16_placeOf_31 ?_
    refine lv_ladd hx hb dX16_placeOf_34 ?_
    refine lv_topl (fun z34_1 ez34_1 => ?_)
    refine lv_ldc2 (v := 4294967295) hx hb hown (hn.get mw_1820 rfl) dX16_placeOf_35 ?_
    refine lv_land hx hb dX16_placeOf_38 ?_
    refine lv_topl (fun z38_1 ez38_1 => ?_)
    have r38_2 : rl z38_1 0 4294967295 := rgL_andr ez38_1 (show rl (4294967295 : Int64) 4294967295 4294967295 from rl_l (by decide)) (by decide)
    exact et_l (SX := Unit) (pl1 := fun _ => pl) hQ hx hb hr hlocks dX16_placeOf_39 (0, 0) ⟨r38_2, (show ((0 : Nat) : Int) = 0 by omega), (show ((0 : Nat) : Int) = 0 by omega)⟩ hP hD hS [] (by decide) rfl (Nat.le_refl _) (Nat.le_refl _) (Nat.zero_le MC) (Nat.zero_le MS)
  have b20 : ∀  (H : Heap) (locs : List Loc) (ls : Array Slot), lv_has ls 1 [(0, .ref Y.root)] → va_P D vwCl ([] ++ (pl)) H → va_D A ([] ++ (pl)) → va_S A s.heap H locs → W p l e ({ frames := 1, cells := MC, slots := MS, locals := 20 }) s m [.ref Y.root].toArray below meth c H locs 0 0 Q (F0 m 20 ls []) := by
    intro  H locs ls  hl hP hD hS
    refine lv_lconst (v := 0) hx hb dX16_placeOf_20 (by decide) ?_
    refine lv_goto (tgt := 27) hx hb dX16_placeOf_21 (by decide) ?_
    exact b27 (0 : Int64) H locs ls (rl_w (show rl (0 : Int64) 0 0 from rl_l (by decide)) (by decide)) (lv_sub hl [0] rfl) hP hD hS
  refine lv_if_eq (tgt := 20) hx hb dX16_placeOf_8 (by decide) (fun c8_1 => ?_) (fun c8_1 => ?_)
  · have t8_2 := FF.mk (l_eq ez7_1 c8_1)
    have r8_3 : rl v_Y (-1) (-1) := rl_eqA t8_2 (rl_any v_Y) (show rl ((-1) : Int64) (-1) (-1) from rl_l (by decide)) (by decide)
    exact b20  H locs ls  (lv_sub hl [0] rfl) hP hD hS
  · have t8_2 := FF.mk (l_neq ez7_1 c8_1)
    refine lv_aload_n hx hb dX16_placeOf_11 rfl (lv_at hl 0 rfl) ?_
    obtain ⟨k12_1, hk12_1⟩ := pl_get (X := []) hm0_2
    refine va_get (D := D) (ci := 14) (v := .long v_Y) (C := RX14) (T := TX14) (N := 5) hx hb (htX14 hn) (fun _ h => h) hown hK hP k12_1 hk12_1 rfl 1 (by decide) (hn.get mw_2049 rfl) (fun _ h9 => h9) rfl dX16_placeOf_12 ?_
    refine lv_lconst (v := 0) hx hb dX16_placeOf_15 (by decide) ?_
    refine W.lcmp hx hb dX16_placeOf_16 ?_
    refine lv_topi (fun z16_1 ez16_1 => ?_)
    refine lv_if_ne (tgt := 24) hx hb dX16_placeOf_17 (by decide) (fun c17_1 => ?_) (fun c17_1 => ?_)
    · have t17_2 := FF.mk (l_ne ez16_1 c17_1)
      refine lv_ldc2 (v := 14) hx hb hown (hn.get mw_1826 rfl) dX16_placeOf_24 ?_
      exact b27 (14 : Int64) H locs ls (rl_w (show rl (14 : Int64) 14 14 from rl_l (by decide)) (by decide)) (lv_sub hl [0] rfl) hP hD hS
    · have t17_2 := FF.mk (l_eq ez16_1 c17_1)
      have r17_3 : rl v_Y 0 0 := rl_eqA t17_2 (rl_any v_Y) (show rl (0 : Int64) 0 0 from rl_l (by decide)) (by decide)
      exact b20  H locs ls  (lv_sub hl [0] rfl) hP hD hS
set_option maxHeartbeats 2000000 in
theorem c_X16_decided (l : Launch) (hst : l.stackTraces = false) (D : va_G) (ct : Nat → ClassId) (MC : Nat) (MS : Nat) (pl : va_W) (mm : Nat) (v0 : Int32) (v1 : Int32) (v2 : Int32) (aso : Nat) (ant : Nat) (fs_mm : List Value) (ute : Nat) (x_mm_15 : Int32) (uye : Nat) (uno_ : Nat) (g_ute : Nat → Option Nat) (TN : Nat) (g_uye : Nat → Int32) (TL : Nat) (g_uno_ : Nat → Int32) (g_aso : Nat → Int32) (TQ : Nat) (g_ant : Nat → Int32) (h_v2 : rg v2 0 1) (hlen_mm : fs_mm.length = 78) (hf_mm_14 : fs_mm[14]? = some (.ref ute)) (h_x_mm_15 : rg x_mm_15 0 34000) (hf_mm_15 : fs_mm[15]? = some (.int x_mm_15)) (hf_mm_16 : fs_mm[16]? = some (.ref uye)) (hf_mm_17 : fs_mm[17]? = some (.ref uno_)) (hq0 : x_mm_15.toInt ≤ ((TN : Nat) : Int)) (hq1 : x_mm_15.toInt ≤ ((TL : Nat) : Int)) (hq2 : x_mm_15.toInt ≤ ((TQ : Nat) : Int)) (hq3 : 0 ≤ v0.toInt) (hq4 : v0.toInt < x_mm_15.toInt) (hq5 : -2 ≤ v1.toInt) (hq6 : v1.toInt < x_mm_15.toInt) (hg0 : MT pl g_ute g_uye g_uno_ x_mm_15.toInt) (hg1 : FWA g_aso x_mm_15.toInt) (hg2 : FWA g_ant x_mm_15.toInt) : KP (V := Int32) (S := Nat × Nat) (SX := Unit) l yX16_decided cX16_decided 9 (some .int) 2 42 D ct [.ref mm, .int v0, .int v1, .int v2, .ref aso, .ref ant] ([(mm, .inr (16, fs_mm)), (ute, .inl (ct 5, TN, .inr (.inr (.inr (.inr g_ute))))), (uye, .inl (ct 1, TL, .inl g_uye)), (uno_, .inl (ct 1, TL, .inl g_uno_)), (aso, .inl (ct 1, TQ, .inl g_aso)), (ant, .inl (ct 1, TQ, .inl g_ant))] ++ pl) MC MS (fun r : Int32 => some (.int r)) (fun (r : Int32) (u : Nat × Nat) => match u with | (kc, kn) => (((kc : Nat) : Int) = 0) ∧ (((kn : Nat) : Int) = 0) ∧ (r.toInt = v1.toInt ∨ (0 ≤ v1.toInt ∧ ((r.toInt < 0 ∧ -2 ≤ r.toInt) ∨ (v1.toInt < r.toInt ∧ r.toInt < x_mm_15.toInt))))) (fun (u : Nat × Nat) => (match u with | (kc, kn) => [(mm, .inr (16, fs_mm)), (ute, .inl (ct 5, TN, .inr (.inr (.inr (.inr g_ute))))), (uye, .inl (ct 1, TL, .inl g_uye)), (uno_, .inl (ct 1, TL, .inl g_uno_)), (aso, .inl (ct 1, TQ, .inl g_aso)), (ant, .inl (ct 1, TQ, .inl g_ant))]) ++ pl) (fun (u : Nat × Nat) => match u with | (kc, kn) => kc) (fun (u : Nat × Nat) => match u with | (kc, kn) => kn) 15 RX15 peW (fun _ => False) (fun _ => ([] : va_W) ++ pl) (fun _ => 0) (fun _ => 0) := by
  refine KP_of (by decide) (Nat.le_of_ble_eq_true rfl) (fun p e s m below meth c A Q C0 htab hA H locs hS hP hD hQ ls hl => ?_)
  obtain ⟨hx, hb, hr, hown, hin, hml, hlocks, hn, hK, hZ, hSK⟩ := C0
  have hl : lv_has ls 9 [(0, .ref mm), (1, .int v0), (2, .int v1), (3, .int v2), (4, .ref aso), (5, .ref ant)] := hl
  replace hq0 := FF.mk hq0
  replace hq1 := FF.mk hq1
  replace hq2 := FF.mk hq2
  replace hq3 := FF.mk hq3
  replace hq4 := FF.mk hq4
  replace hq5 := FF.mk hq5
  replace hq6 := FF.mk hq6
  refine lv_iload_n hx hb dX16_decided_0 rfl (lv_at hl 2 rfl) ?_
  refine lv_if_ge (tgt := 6) hx hb dX16_decided_1 (by decide) (fun c1_1 => ?_) (fun c1_1 => ?_)
  · have t1_2 := FF.mk (i_le c1_1)
    have r1_3 : rg v1 0 2147483647 := rg_leB t1_2 (show rg (0 : Int32) 0 0 from rg_l (by decide)) (rg_any v1) (by decide)
    refine lv_aload_n hx hb dX16_decided_6 rfl (lv_at hl 0 rfl) ?_
    refine va_get (D := D) (ci := 16) (v := .ref ute) (C := RX16) (T := TX16) (N := 78) hx hb (htX16 hn) (fun _ h => h) hown hK hP 0 rfl rfl 14 (by decide) (hn.get mw_1553 rfl) (fun _ h9 => h9) hf_mm_14 dX16_decided_7 ?_
    refine lv_iload_n hx hb dX16_decided_10 rfl (lv_at hl 1 rfl) ?_
    obtain ⟨⟨q11_1, q11_1l, q11_1r, q11_1s, q11_1z, gq11_1, hmq11_1, olq11_1, orq11_1, ulq11_1, urq11_1, dlq11_1, drq11_1, zlq11_1, zrq11_1⟩, fyq11_1, fnq11_1⟩ := MT.at hg0 (i := v0) (show 0 ≤ v0.toInt by have q0 := FF.out hq3; omega) (show v0.toInt < x_mm_15.toInt by have q0 := FF.out hq4; omega)
    have hk11_2 : FF (1 ≤ ((q11_1l.sz : Nat) : Int)) := FF.mk (ST.sz_pos olq11_1)
    have hk11_3 : FF (0 ≤ ((q11_1l.dep : Nat) : Int)) := FF.mk (Int.natCast_nonneg _)
    have hk11_4 : FF (0 ≤ ((q11_1l.c4 : Nat) : Int)) := FF.mk (Int.natCast_nonneg _)
    have hk11_5 : FF (1 ≤ ((q11_1r.sz : Nat) : Int)) := FF.mk (ST.sz_pos orq11_1)
    have hk11_6 : FF (0 ≤ ((q11_1r.dep : Nat) : Int)) := FF.mk (Int.natCast_nonneg _)
    have hk11_7 : FF (0 ≤ ((q11_1r.c4 : Nat) : Int)) := FF.mk (Int.natCast_nonneg _)
    have hk11_8 : FF (((q11_1l.dep : Nat) : Int) ≤ 83) := FF.mk dlq11_1
    have hk11_9 : FF (((q11_1l.sz : Nat) : Int) ≤ 38000) := FF.mk zlq11_1
    have hk11_10 : FF (((q11_1r.dep : Nat) : Int) ≤ 83) := FF.mk drq11_1
    have hk11_11 : FF (((q11_1r.sz : Nat) : Int) ≤ 38000) := FF.mk zrq11_1
    have hk11_12 : FF (((g_uye v0.toNatClampNeg).toInt < 0 ∧ -2 ≤ (g_uye v0.toNatClampNeg).toInt) ∨ (v0.toInt < (g_uye v0.toNatClampNeg).toInt ∧ (g_uye v0.toNatClampNeg).toInt < x_mm_15.toInt)) := FF.mk fyq11_1
    have hk11_13 : FF (((g_uno_ v0.toNatClampNeg).toInt < 0 ∧ -2 ≤ (g_uno_ v0.toNatClampNeg).toInt) ∨ (v0.toInt < (g_uno_ v0.toNatClampNeg).toInt ∧ (g_uno_ v0.toNatClampNeg).toInt < x_mm_15.toInt)) := FF.mk fnq11_1
    have hi11_14 : vp_in v0 TN := (in_of (show 0 ≤ v0.toInt ∧ v0.toInt < ((TN : Nat) : Int) by have q0 := FF.out hq0; have q1 := FF.out hq3; have q2 := FF.out hq4; omega))
    refine aq_ld hx hb hK hP 1 5 rfl rfl hi11_14 gq11_1 dX16_decided_11 ?_
    obtain ⟨m12_1, gm12_1⟩ : ∃ m9 : Nat, m9 + 0 = MC := ⟨MC - 0, Nat.sub_add_cancel (Nat.zero_le MC)⟩
    have em12_1 := FF.mk gm12_1
    obtain ⟨m12_2, gm12_2⟩ : ∃ m9 : Nat, m9 + 0 = MS := ⟨MS - 0, Nat.sub_add_cancel (Nat.zero_le MS)⟩
    have em12_2 := FF.mk gm12_2
    refine gt_P (pl := (pl)) (pl1 := fun _ => (pl)) (wr := [(mm, .inr (16, fs_mm)), (ute, .inl (ct 5, TN, .inr (.inr (.inr (.inr g_ute))))), (uye, .inl (ct 1, TL, .inl g_uye)), (uno_, .inl (ct 1, TL, .inl g_uno_)), (aso, .inl (ct 1, TQ, .inl g_aso)), (ant, .inl (ct 1, TQ, .inl g_ant))]) [] [0, 1, 2, 3, 4, 5] (rt_S (As := [.ref q11_1]) (rest := []) (c_X16_decider l hst D ct m12_1 m12_2 (pl) q11_1 q11_1l q11_1r q11_1s q11_1z hmq11_1 olq11_1 ulq11_1 orq11_1 urq11_1 _) (cb_of (n := 1) hn mw_2238 mw_13 mw_2236 mhX16_decider ⟨(Nat.le_of_ble_eq_true rfl), (Nat.le_of_ble_eq_true rfl)⟩) hx hb hml hown hn hK hSK hZ hS mw_2237 rfl hl.1 (Nat.le_of_ble_eq_true rfl) dX16_decided_12 ⟨(Nat.le_of_eq ((Nat.add_comm _ _).trans gm12_1)), (Nat.le_of_eq ((Nat.add_comm _ _).trans gm12_2))⟩) hP hD hS hA rfl rfl (by decide) (by decide) (by decide) (fun xq12_6 ux12_7 xfs12_8 H locs hpx12_9 hpexfs12_8 hP hD hS => ?_) (fun r12_3 u12_4 H locs hp12_5 hP hD hS => ?_)
    · exact hpx12_9.elim
    obtain ⟨kc12_310, kn12_311⟩ := u12_4
    obtain ⟨hp12_312, hp12_313, hp12_314⟩ := hp12_5
    replace hp12_313 : FF (((kc12_310 : Nat) : Int) = 0) := hp12_313
    replace hp12_314 : FF (((kn12_311 : Nat) : Int) = 0) := hp12_314
    obtain ⟨c12_315, ec12_315⟩ : ∃ x9 : Nat, x9 = 0 + kc12_310 := ⟨_, rfl⟩
    have ec12_315 := FF.mk ec12_315
    have mc12_315 : FF (c12_315 ≤ MC) := FF.mk (Int.ofNat_le.mp (show ((c12_315 : Nat) : Int) ≤ ((MC : Nat) : Int) by have q0 := FF.out hp12_313; have q1 := FF.out ec12_315; omega))
    obtain ⟨k12_316, ek12_316⟩ : ∃ x9 : Nat, x9 = 0 + kn12_311 := ⟨_, rfl⟩
    have ek12_316 := FF.mk ek12_316
    have mk12_316 : FF (k12_316 ≤ MS) := FF.mk (Int.ofNat_le.mp (show ((k12_316 : Nat) : Int) ≤ ((MS : Nat) : Int) by have q0 := FF.out hp12_314; have q1 := FF.out ek12_316; omega))
    rcases r12_3 with _ | r12_3q
    · have hP : va_P D vwCl ([(mm, .inr (16, fs_mm)), (ute, .inl (ct 5, TN, .inr (.inr (.inr (.inr g_ute))))), (uye, .inl (ct 1, TL, .inl g_uye)), (uno_, .inl (ct 1, TL, .inl g_uno_)), (aso, .inl (ct 1, TQ, .inl g_aso)), (ant, .inl (ct 1, TQ, .inl g_ant))] ++ (pl)) _ := hP
      have hD : va_D A ([(mm, .inr (16, fs_mm)), (ute, .inl (ct 5, TN, .inr (.inr (.inr (.inr g_ute))))), (uye, .inl (ct 1, TL, .inl g_uye)), (uno_, .inl (ct 1, TL, .inl g_uno_)), (aso, .inl (ct 1, TQ, .inl g_aso)), (ant, .inl (ct 1, TQ, .inl g_ant))] ++ (pl)) := hD
      refine W.widen (k := c12_315) (n := k12_316) (Nat.le_of_eq (FF.out ec12_315).symm) (Nat.le_of_eq (FF.out ek12_316).symm) (W.eq (g2 := F0 m 15 ls [.null]) rfl ?_)
      refine lv_astoreN (lv' := [(6, .null), (0, .ref mm), (1, .int v0), (2, .int v1), (3, .int v2), (4, .ref aso), (5, .ref ant)]) hx hb dX16_decided_15 hl (by decide) rfl (fun ls hl => ?_)
      refine lv_aload_n hx hb dX16_decided_17 rfl (lv_at hl 1 rfl) ?_
      refine va_get (D := D) (ci := 16) (v := .ref ute) (C := RX16) (T := TX16) (N := 78) hx hb (htX16 hn) (fun _ h => h) hown hK hP 0 rfl rfl 14 (by decide) (hn.get mw_1553 rfl) (fun _ h9 => h9) hf_mm_14 dX16_decided_18 ?_
      refine lv_iload_n hx hb dX16_decided_21 rfl (lv_at hl 3 rfl) ?_
      obtain ⟨⟨q22_1, q22_1l, q22_1r, q22_1s, q22_1z, gq22_1, hmq22_1, olq22_1, orq22_1, ulq22_1, urq22_1, dlq22_1, drq22_1, zlq22_1, zrq22_1⟩, fyq22_1, fnq22_1⟩ := MT.at hg0 (i := v1) (show 0 ≤ v1.toInt by have q0 := FF.out t1_2; have q1 := (show (0 : Int32).toInt = 0 from by decide); omega) (show v1.toInt < x_mm_15.toInt by have q0 := FF.out hq6; omega)
      have hk22_2 : FF (1 ≤ ((q22_1l.sz : Nat) : Int)) := FF.mk (ST.sz_pos olq22_1)
      have hk22_3 : FF (0 ≤ ((q22_1l.dep : Nat) : Int)) := FF.mk (Int.natCast_nonneg _)
      have hk22_4 : FF (0 ≤ ((q22_1l.c4 : Nat) : Int)) := FF.mk (Int.natCast_nonneg _)
      have hk22_5 : FF (1 ≤ ((q22_1r.sz : Nat) : Int)) := FF.mk (ST.sz_pos orq22_1)
      have hk22_6 : FF (0 ≤ ((q22_1r.dep : Nat) : Int)) := FF.mk (Int.natCast_nonneg _)
      have hk22_7 : FF (0 ≤ ((q22_1r.c4 : Nat) : Int)) := FF.mk (Int.natCast_nonneg _)
      have hk22_8 : FF (((q22_1l.dep : Nat) : Int) ≤ 83) := FF.mk dlq22_1
      have hk22_9 : FF (((q22_1l.sz : Nat) : Int) ≤ 38000) := FF.mk zlq22_1
      have hk22_10 : FF (((q22_1r.dep : Nat) : Int) ≤ 83) := FF.mk drq22_1
      have hk22_11 : FF (((q22_1r.sz : Nat) : Int) ≤ 38000) := FF.mk zrq22_1
      have hk22_12 : FF (((g_uye v1.toNatClampNeg).toInt < 0 ∧ -2 ≤ (g_uye v1.toNatClampNeg).toInt) ∨ (v1.toInt < (g_uye v1.toNatClampNeg).toInt ∧ (g_uye v1.toNatClampNeg).toInt < x_mm_15.toInt)) := FF.mk fyq22_1
      have hk22_13 : FF (((g_uno_ v1.toNatClampNeg).toInt < 0 ∧ -2 ≤ (g_uno_ v1.toNatClampNeg).toInt) ∨ (v1.toInt < (g_uno_ v1.toNatClampNeg).toInt ∧ (g_uno_ v1.toNatClampNeg).toInt < x_mm_15.toInt)) := FF.mk fnq22_1
      have hi22_14 : vp_in v1 TN := (in_of (show 0 ≤ v1.toInt ∧ v1.toInt < ((TN : Nat) : Int) by have q0 := FF.out hq0; have q1 := FF.out hq6; have q2 := FF.out t1_2; have q3 := (show (0 : Int32).toInt = 0 from by decide); omega))
      refine aq_ld hx hb hK hP 1 5 rfl rfl hi22_14 gq22_1 dX16_decided_22 ?_
      obtain ⟨m23_1, gm23_1⟩ : ∃ m9 : Nat, m9 + c12_315 = MC := ⟨MC - c12_315, Nat.sub_add_cancel (FF.out mc12_315)⟩
      have em23_1 := FF.mk gm23_1
      obtain ⟨m23_2, gm23_2⟩ : ∃ m9 : Nat, m9 + k12_316 = MS := ⟨MS - k12_316, Nat.sub_add_cancel (FF.out mk12_316)⟩
      have em23_2 := FF.mk gm23_2
      refine gt_P (pl := (pl)) (pl1 := fun _ => (pl)) (wr := [(mm, .inr (16, fs_mm)), (ute, .inl (ct 5, TN, .inr (.inr (.inr (.inr g_ute))))), (uye, .inl (ct 1, TL, .inl g_uye)), (uno_, .inl (ct 1, TL, .inl g_uno_)), (aso, .inl (ct 1, TQ, .inl g_aso)), (ant, .inl (ct 1, TQ, .inl g_ant))]) [] [0, 1, 2, 3, 4, 5] (rt_S (As := [.ref q22_1]) (rest := []) (c_X16_decider l hst D ct m23_1 m23_2 (pl) q22_1 q22_1l q22_1r q22_1s q22_1z hmq22_1 olq22_1 ulq22_1 orq22_1 urq22_1 _) (cb_of (n := 1) hn mw_2238 mw_13 mw_2236 mhX16_decider ⟨(Nat.le_of_ble_eq_true rfl), (Nat.le_of_ble_eq_true rfl)⟩) hx hb hml hown hn hK hSK hZ hS mw_2237 rfl hl.1 (Nat.le_of_ble_eq_true rfl) dX16_decided_23 ⟨(Nat.le_of_eq ((Nat.add_comm _ _).trans gm23_1)), (Nat.le_of_eq ((Nat.add_comm _ _).trans gm23_2))⟩) hP hD hS hA rfl rfl (by decide) (by decide) (by decide) (fun xq23_6 ux23_7 xfs23_8 H locs hpx23_9 hpexfs23_8 hP hD hS => ?_) (fun r23_3 u23_4 H locs hp23_5 hP hD hS => ?_)
      · exact hpx23_9.elim
      obtain ⟨kc23_310, kn23_311⟩ := u23_4
      obtain ⟨hp23_312, hp23_313, hp23_314⟩ := hp23_5
      replace hp23_313 : FF (((kc23_310 : Nat) : Int) = 0) := hp23_313
      replace hp23_314 : FF (((kn23_311 : Nat) : Int) = 0) := hp23_314
      obtain ⟨c23_315, ec23_315⟩ : ∃ x9 : Nat, x9 = c12_315 + kc23_310 := ⟨_, rfl⟩
      have ec23_315 := FF.mk ec23_315
      have mc23_315 : FF (c23_315 ≤ MC) := FF.mk (Int.ofNat_le.mp (show ((c23_315 : Nat) : Int) ≤ ((MC : Nat) : Int) by have q0 := FF.out mc12_315; have q1 := FF.out hp23_313; have q2 := FF.out ec23_315; omega))
      obtain ⟨k23_316, ek23_316⟩ : ∃ x9 : Nat, x9 = k12_316 + kn23_311 := ⟨_, rfl⟩
      have ek23_316 := FF.mk ek23_316
      have mk23_316 : FF (k23_316 ≤ MS) := FF.mk (Int.ofNat_le.mp (show ((k23_316 : Nat) : Int) ≤ ((MS : Nat) : Int) by have q0 := FF.out mk12_316; have q1 := FF.out hp23_314; have q2 := FF.out ek23_316; omega))
      rcases r23_3 with _ | r23_3q
      · have hP : va_P D vwCl ([(mm, .inr (16, fs_mm)), (ute, .inl (ct 5, TN, .inr (.inr (.inr (.inr g_ute))))), (uye, .inl (ct 1, TL, .inl g_uye)), (uno_, .inl (ct 1, TL, .inl g_uno_)), (aso, .inl (ct 1, TQ, .inl g_aso)), (ant, .inl (ct 1, TQ, .inl g_ant))] ++ (pl)) _ := hP
        have hD : va_D A ([(mm, .inr (16, fs_mm)), (ute, .inl (ct 5, TN, .inr (.inr (.inr (.inr g_ute))))), (uye, .inl (ct 1, TL, .inl g_uye)), (uno_, .inl (ct 1, TL, .inl g_uno_)), (aso, .inl (ct 1, TQ, .inl g_aso)), (ant, .inl (ct 1, TQ, .inl g_ant))] ++ (pl)) := hD
        refine W.widen (k := c23_315) (n := k23_316) (Nat.le_of_eq (FF.out ec23_315).symm) (Nat.le_of_eq (FF.out ek23_316).symm) (W.eq (g2 := F0 m 26 ls [.null]) rfl ?_)
        refine lv_astoreN (lv' := [(7, .null), (6, .null), (0, .ref mm), (1, .int v0), (2, .int v1), (3, .int v2), (4, .ref aso), (5, .ref ant)]) hx hb dX16_decided_26 hl (by decide) rfl (fun ls hl => ?_)
        refine lv_aloadN hx hb dX16_decided_28 (lv_at hl 1 rfl) ?_
        refine lv_ifnullN (tgt := 65) hx hb dX16_decided_30 (by decide) ?_
        refine lv_iload_n hx hb dX16_decided_65 rfl (lv_at hl 4 rfl) ?_
        exact et_i (SX := Unit) (pl1 := fun _ => pl) hQ hx hb hr hlocks dX16_decided_66 rfl (c23_315, k23_316) ⟨(show ((c23_315 : Nat) : Int) = 0 by have q0 := FF.out hp12_313; have q1 := FF.out ec12_315; have q2 := FF.out hp23_313; have q3 := FF.out ec23_315; omega), (show ((k23_316 : Nat) : Int) = 0 by have q0 := FF.out hp12_314; have q1 := FF.out ek12_316; have q2 := FF.out hp23_314; have q3 := FF.out ek23_316; omega), (show v1.toInt = v1.toInt ∨ (0 ≤ v1.toInt ∧ ((v1.toInt < 0 ∧ -2 ≤ v1.toInt) ∨ (v1.toInt < v1.toInt ∧ v1.toInt < x_mm_15.toInt))) by omega)⟩ hP hD hS [0, 1, 2, 3, 4, 5] (by decide) rfl (Nat.le_refl _) (Nat.le_refl _) (FF.out mc23_315) (FF.out mk23_316)
      · obtain ⟨d23_377X, d23_377x, d23_377v, d23_377z, ed23_377, od23_377, ud23_377, hd23_377⟩ := hp23_312 r23_3q rfl
        subst ed23_377
        have h23_378f := hd23_377.1; have h23_378x := hd23_377.2.1; have h23_378u := SUB.tr hd23_377.2.2.2.2 ud23_377
        have hm23_379 := ST.nodeP od23_377 ud23_377 h23_378f
        have hk23_380 : FF (1 ≤ ((d23_377x.sz : Nat) : Int)) := FF.mk (ST.sz_pos h23_378x)
        have hk23_381 : FF (0 ≤ ((d23_377x.dep : Nat) : Int)) := FF.mk (Int.natCast_nonneg _)
        have hk23_382 : FF (0 ≤ ((d23_377x.c4 : Nat) : Int)) := FF.mk (Int.natCast_nonneg _)
        have hk23_383 : FF (((d23_377X.sz : Nat) : Int) = ((d23_377x.sz : Nat) : Int) + 1) := FF.mk ((ST.is1_f hd23_377).1)
        have hk23_384 : FF (((d23_377X.dep : Nat) : Int) = ((d23_377x.dep : Nat) : Int) + 1) := FF.mk ((ST.is1_f hd23_377).2)
        have hP : va_P D vwCl ([(mm, .inr (16, fs_mm)), (ute, .inl (ct 5, TN, .inr (.inr (.inr (.inr g_ute))))), (uye, .inl (ct 1, TL, .inl g_uye)), (uno_, .inl (ct 1, TL, .inl g_uno_)), (aso, .inl (ct 1, TQ, .inl g_aso)), (ant, .inl (ct 1, TQ, .inl g_ant))] ++ (pl)) _ := hP
        have hD : va_D A ([(mm, .inr (16, fs_mm)), (ute, .inl (ct 5, TN, .inr (.inr (.inr (.inr g_ute))))), (uye, .inl (ct 1, TL, .inl g_uye)), (uno_, .inl (ct 1, TL, .inl g_uno_)), (aso, .inl (ct 1, TQ, .inl g_aso)), (ant, .inl (ct 1, TQ, .inl g_ant))] ++ (pl)) := hD
        refine W.widen (k := c23_315) (n := k23_316) (Nat.le_of_eq (FF.out ec23_315).symm) (Nat.le_of_eq (FF.out ek23_316).symm) (W.eq (g2 := F0 m 26 ls [.ref d23_377X.root]) rfl ?_)
        refine lv_astore (lv' := [(7, .ref d23_377X.root), (6, .null), (0, .ref mm), (1, .int v0), (2, .int v1), (3, .int v2), (4, .ref aso), (5, .ref ant)]) hx hb dX16_decided_26 hl (by decide) rfl (fun ls hl => ?_)
        refine lv_aloadN hx hb dX16_decided_28 (lv_at hl 1 rfl) ?_
        refine lv_ifnullN (tgt := 65) hx hb dX16_decided_30 (by decide) ?_
        refine lv_iload_n hx hb dX16_decided_65 rfl (lv_at hl 4 rfl) ?_
        exact et_i (SX := Unit) (pl1 := fun _ => pl) hQ hx hb hr hlocks dX16_decided_66 rfl (c23_315, k23_316) ⟨(show ((c23_315 : Nat) : Int) = 0 by have q0 := FF.out hp12_313; have q1 := FF.out ec12_315; have q2 := FF.out hp23_313; have q3 := FF.out ec23_315; omega), (show ((k23_316 : Nat) : Int) = 0 by have q0 := FF.out hp12_314; have q1 := FF.out ek12_316; have q2 := FF.out hp23_314; have q3 := FF.out ek23_316; omega), (show v1.toInt = v1.toInt ∨ (0 ≤ v1.toInt ∧ ((v1.toInt < 0 ∧ -2 ≤ v1.toInt) ∨ (v1.toInt < v1.toInt ∧ v1.toInt < x_mm_15.toInt))) by omega)⟩ hP hD hS [0, 1, 2, 3, 4, 5] (by decide) rfl (Nat.le_refl _) (Nat.le_refl _) (FF.out mc23_315) (FF.out mk23_316)
    · obtain ⟨d12_377X, d12_377x, d12_377v, d12_377z, ed12_377, od12_377, ud12_377, hd12_377⟩ := hp12_312 r12_3q rfl
      subst ed12_377
      have h12_378f := hd12_377.1; have h12_378x := hd12_377.2.1; have h12_378u := SUB.tr hd12_377.2.2.2.2 ud12_377
      have hm12_379 := ST.nodeP od12_377 ud12_377 h12_378f
      have hk12_380 : FF (1 ≤ ((d12_377x.sz : Nat) : Int)) := FF.mk (ST.sz_pos h12_378x)
      have hk12_381 : FF (0 ≤ ((d12_377x.dep : Nat) : Int)) := FF.mk (Int.natCast_nonneg _)
      have hk12_382 : FF (0 ≤ ((d12_377x.c4 : Nat) : Int)) := FF.mk (Int.natCast_nonneg _)
      have hk12_383 : FF (((d12_377X.sz : Nat) : Int) = ((d12_377x.sz : Nat) : Int) + 1) := FF.mk ((ST.is1_f hd12_377).1)
      have hk12_384 : FF (((d12_377X.dep : Nat) : Int) = ((d12_377x.dep : Nat) : Int) + 1) := FF.mk ((ST.is1_f hd12_377).2)
      have hP : va_P D vwCl ([(mm, .inr (16, fs_mm)), (ute, .inl (ct 5, TN, .inr (.inr (.inr (.inr g_ute))))), (uye, .inl (ct 1, TL, .inl g_uye)), (uno_, .inl (ct 1, TL, .inl g_uno_)), (aso, .inl (ct 1, TQ, .inl g_aso)), (ant, .inl (ct 1, TQ, .inl g_ant))] ++ (pl)) _ := hP
      have hD : va_D A ([(mm, .inr (16, fs_mm)), (ute, .inl (ct 5, TN, .inr (.inr (.inr (.inr g_ute))))), (uye, .inl (ct 1, TL, .inl g_uye)), (uno_, .inl (ct 1, TL, .inl g_uno_)), (aso, .inl (ct 1, TQ, .inl g_aso)), (ant, .inl (ct 1, TQ, .inl g_ant))] ++ (pl)) := hD
      refine W.widen (k := c12_315) (n := k12_316) (Nat.le_of_eq (FF.out ec12_315).symm) (Nat.le_of_eq (FF.out ek12_316).symm) (W.eq (g2 := F0 m 15 ls [.ref d12_377X.root]) rfl ?_)
      refine lv_astore (lv' := [(6, .ref d12_377X.root), (0, .ref mm), (1, .int v0), (2, .int v1), (3, .int v2), (4, .ref aso), (5, .ref ant)]) hx hb dX16_decided_15 hl (by decide) rfl (fun ls hl => ?_)
      refine lv_aload_n hx hb dX16_decided_17 rfl (lv_at hl 1 rfl) ?_
      refine va_get (D := D) (ci := 16) (v := .ref ute) (C := RX16) (T := TX16) (N := 78) hx hb (htX16 hn) (fun _ h => h) hown hK hP 0 rfl rfl 14 (by decide) (hn.get mw_1553 rfl) (fun _ h9 => h9) hf_mm_14 dX16_decided_18 ?_
      refine lv_iload_n hx hb dX16_decided_21 rfl (lv_at hl 3 rfl) ?_
      obtain ⟨⟨q22_1, q22_1l, q22_1r, q22_1s, q22_1z, gq22_1, hmq22_1, olq22_1, orq22_1, ulq22_1, urq22_1, dlq22_1, drq22_1, zlq22_1, zrq22_1⟩, fyq22_1, fnq22_1⟩ := MT.at hg0 (i := v1) (show 0 ≤ v1.toInt by have q0 := FF.out t1_2; have q1 := (show (0 : Int32).toInt = 0 from by decide); omega) (show v1.toInt < x_mm_15.toInt by have q0 := FF.out hq6; omega)
      have hk22_2 : FF (1 ≤ ((q22_1l.sz : Nat) : Int)) := FF.mk (ST.sz_pos olq22_1)
      have hk22_3 : FF (0 ≤ ((q22_1l.dep : Nat) : Int)) := FF.mk (Int.natCast_nonneg _)
      have hk22_4 : FF (0 ≤ ((q22_1l.c4 : Nat) : Int)) := FF.mk (Int.natCast_nonneg _)
      have hk22_5 : FF (1 ≤ ((q22_1r.sz : Nat) : Int)) := FF.mk (ST.sz_pos orq22_1)
      have hk22_6 : FF (0 ≤ ((q22_1r.dep : Nat) : Int)) := FF.mk (Int.natCast_nonneg _)
      have hk22_7 : FF (0 ≤ ((q22_1r.c4 : Nat) : Int)) := FF.mk (Int.natCast_nonneg _)
      have hk22_8 : FF (((q22_1l.dep : Nat) : Int) ≤ 83) := FF.mk dlq22_1
      have hk22_9 : FF (((q22_1l.sz : Nat) : Int) ≤ 38000) := FF.mk zlq22_1
      have hk22_10 : FF (((q22_1r.dep : Nat) : Int) ≤ 83) := FF.mk drq22_1
      have hk22_11 : FF (((q22_1r.sz : Nat) : Int) ≤ 38000) := FF.mk zrq22_1
      have hk22_12 : FF (((g_uye v1.toNatClampNeg).toInt < 0 ∧ -2 ≤ (g_uye v1.toNatClampNeg).toInt) ∨ (v1.toInt < (g_uye v1.toNatClampNeg).toInt ∧ (g_uye v1.toNatClampNeg).toInt < x_mm_15.toInt)) := FF.mk fyq22_1
      have hk22_13 : FF (((g_uno_ v1.toNatClampNeg).toInt < 0 ∧ -2 ≤ (g_uno_ v1.toNatClampNeg).toInt) ∨ (v1.toInt < (g_uno_ v1.toNatClampNeg).toInt ∧ (g_uno_ v1.toNatClampNeg).toInt < x_mm_15.toInt)) := FF.mk fnq22_1
      have hi22_14 : vp_in v1 TN := (in_of (show 0 ≤ v1.toInt ∧ v1.toInt < ((TN : Nat) : Int) by have q0 := FF.out hq0; have q1 := FF.out hq6; have q2 := FF.out t1_2; have q3 := (show (0 : Int32).toInt = 0 from by decide); omega))
      refine aq_ld hx hb hK hP 1 5 rfl rfl hi22_14 gq22_1 dX16_decided_22 ?_
      obtain ⟨m23_1, gm23_1⟩ : ∃ m9 : Nat, m9 + c12_315 = MC := ⟨MC - c12_315, Nat.sub_add_cancel (FF.out mc12_315)⟩
      have em23_1 := FF.mk gm23_1
      obtain ⟨m23_2, gm23_2⟩ : ∃ m9 : Nat, m9 + k12_316 = MS := ⟨MS - k12_316, Nat.sub_add_cancel (FF.out mk12_316)⟩
      have em23_2 := FF.mk gm23_2
      refine gt_P (pl := (pl)) (pl1 := fun _ => (pl)) (wr := [(mm, .inr (16, fs_mm)), (ute, .inl (ct 5, TN, .inr (.inr (.inr (.inr g_ute))))), (uye, .inl (ct 1, TL, .inl g_uye)), (uno_, .inl (ct 1, TL, .inl g_uno_)), (aso, .inl (ct 1, TQ, .inl g_aso)), (ant, .inl (ct 1, TQ, .inl g_ant))]) [] [0, 1, 2, 3, 4, 5] (rt_S (As := [.ref q22_1]) (rest := []) (c_X16_decider l hst D ct m23_1 m23_2 (pl) q22_1 q22_1l q22_1r q22_1s q22_1z hmq22_1 olq22_1 ulq22_1 orq22_1 urq22_1 _) (cb_of (n := 1) hn mw_2238 mw_13 mw_2236 mhX16_decider ⟨(Nat.le_of_ble_eq_true rfl), (Nat.le_of_ble_eq_true rfl)⟩) hx hb hml hown hn hK hSK hZ hS mw_2237 rfl hl.1 (Nat.le_of_ble_eq_true rfl) dX16_decided_23 ⟨(Nat.le_of_eq ((Nat.add_comm _ _).trans gm23_1)), (Nat.le_of_eq ((Nat.add_comm _ _).trans gm23_2))⟩) hP hD hS hA rfl rfl (by decide) (by decide) (by decide) (fun xq23_6 ux23_7 xfs23_8 H locs hpx23_9 hpexfs23_8 hP hD hS => ?_) (fun r23_3 u23_4 H locs hp23_5 hP hD hS => ?_)
      · exact hpx23_9.elim
      obtain ⟨kc23_310, kn23_311⟩ := u23_4
      obtain ⟨hp23_312, hp23_313, hp23_314⟩ := hp23_5
      replace hp23_313 : FF (((kc23_310 : Nat) : Int) = 0) := hp23_313
      replace hp23_314 : FF (((kn23_311 : Nat) : Int) = 0) := hp23_314
      obtain ⟨c23_315, ec23_315⟩ : ∃ x9 : Nat, x9 = c12_315 + kc23_310 := ⟨_, rfl⟩
      have ec23_315 := FF.mk ec23_315
      have mc23_315 : FF (c23_315 ≤ MC) := FF.mk (Int.ofNat_le.mp (show ((c23_315 : Nat) : Int) ≤ ((MC : Nat) : Int) by have q0 := FF.out mc12_315; have q1 := FF.out hp23_313; have q2 := FF.out ec23_315; omega))
      obtain ⟨k23_316, ek23_316⟩ : ∃ x9 : Nat, x9 = k12_316 + kn23_311 := ⟨_, rfl⟩
      have ek23_316 := FF.mk ek23_316
      have mk23_316 : FF (k23_316 ≤ MS) := FF.mk (Int.ofNat_le.mp (show ((k23_316 : Nat) : Int) ≤ ((MS : Nat) : Int) by have q0 := FF.out mk12_316; have q1 := FF.out hp23_314; have q2 := FF.out ek23_316; omega))
      rcases r23_3 with _ | r23_3q
      · have hP : va_P D vwCl ([(mm, .inr (16, fs_mm)), (ute, .inl (ct 5, TN, .inr (.inr (.inr (.inr g_ute))))), (uye, .inl (ct 1, TL, .inl g_uye)), (uno_, .inl (ct 1, TL, .inl g_uno_)), (aso, .inl (ct 1, TQ, .inl g_aso)), (ant, .inl (ct 1, TQ, .inl g_ant))] ++ (pl)) _ := hP
        have hD : va_D A ([(mm, .inr (16, fs_mm)), (ute, .inl (ct 5, TN, .inr (.inr (.inr (.inr g_ute))))), (uye, .inl (ct 1, TL, .inl g_uye)), (uno_, .inl (ct 1, TL, .inl g_uno_)), (aso, .inl (ct 1, TQ, .inl g_aso)), (ant, .inl (ct 1, TQ, .inl g_ant))] ++ (pl)) := hD
        refine W.widen (k := c23_315) (n := k23_316) (Nat.le_of_eq (FF.out ec23_315).symm) (Nat.le_of_eq (FF.out ek23_316).symm) (W.eq (g2 := F0 m 26 ls [.null]) rfl ?_)
        refine lv_astoreN (lv' := [(7, .null), (6, .ref d12_377X.root), (0, .ref mm), (1, .int v0), (2, .int v1), (3, .int v2), (4, .ref aso), (5, .ref ant)]) hx hb dX16_decided_26 hl (by decide) rfl (fun ls hl => ?_)
        refine lv_aload hx hb dX16_decided_28 (lv_at hl 1 rfl) ?_
        refine lv_ifnull hx hb dX16_decided_30 ?_
        refine lv_aloadN hx hb dX16_decided_33 (lv_at hl 0 rfl) ?_
        refine lv_ifnullN (tgt := 65) hx hb dX16_decided_35 (by decide) ?_
        refine lv_iload_n hx hb dX16_decided_65 rfl (lv_at hl 4 rfl) ?_
        exact et_i (SX := Unit) (pl1 := fun _ => pl) hQ hx hb hr hlocks dX16_decided_66 rfl (c23_315, k23_316) ⟨(show ((c23_315 : Nat) : Int) = 0 by have q0 := FF.out hp12_313; have q1 := FF.out ec12_315; have q2 := FF.out hp23_313; have q3 := FF.out ec23_315; omega), (show ((k23_316 : Nat) : Int) = 0 by have q0 := FF.out hp12_314; have q1 := FF.out ek12_316; have q2 := FF.out hp23_314; have q3 := FF.out ek23_316; omega), (show v1.toInt = v1.toInt ∨ (0 ≤ v1.toInt ∧ ((v1.toInt < 0 ∧ -2 ≤ v1.toInt) ∨ (v1.toInt < v1.toInt ∧ v1.toInt < x_mm_15.toInt))) by omega)⟩ hP hD hS [0, 1, 2, 3, 4, 5] (by decide) rfl (Nat.le_refl _) (Nat.le_refl _) (FF.out mc23_315) (FF.out mk23_316)
      · obtain ⟨d23_377X, d23_377x, d23_377v, d23_377z, ed23_377, od23_377, ud23_377, hd23_377⟩ := hp23_312 r23_3q rfl
        subst ed23_377
        have h23_378f := hd23_377.1; have h23_378x := hd23_377.2.1; have h23_378u := SUB.tr hd23_377.2.2.2.2 ud23_377
        have hm23_379 := ST.nodeP od23_377 ud23_377 h23_378f
        have hk23_380 : FF (1 ≤ ((d23_377x.sz : Nat) : Int)) := FF.mk (ST.sz_pos h23_378x)
        have hk23_381 : FF (0 ≤ ((d23_377x.dep : Nat) : Int)) := FF.mk (Int.natCast_nonneg _)
        have hk23_382 : FF (0 ≤ ((d23_377x.c4 : Nat) : Int)) := FF.mk (Int.natCast_nonneg _)
        have hk23_383 : FF (((d23_377X.sz : Nat) : Int) = ((d23_377x.sz : Nat) : Int) + 1) := FF.mk ((ST.is1_f hd23_377).1)
        have hk23_384 : FF (((d23_377X.dep : Nat) : Int) = ((d23_377x.dep : Nat) : Int) + 1) := FF.mk ((ST.is1_f hd23_377).2)
        have hP : va_P D vwCl ([(mm, .inr (16, fs_mm)), (ute, .inl (ct 5, TN, .inr (.inr (.inr (.inr g_ute))))), (uye, .inl (ct 1, TL, .inl g_uye)), (uno_, .inl (ct 1, TL, .inl g_uno_)), (aso, .inl (ct 1, TQ, .inl g_aso)), (ant, .inl (ct 1, TQ, .inl g_ant))] ++ (pl)) _ := hP
        have hD : va_D A ([(mm, .inr (16, fs_mm)), (ute, .inl (ct 5, TN, .inr (.inr (.inr (.inr g_ute))))), (uye, .inl (ct 1, TL, .inl g_uye)), (uno_, .inl (ct 1, TL, .inl g_uno_)), (aso, .inl (ct 1, TQ, .inl g_aso)), (ant, .inl (ct 1, TQ, .inl g_ant))] ++ (pl)) := hD
        refine W.widen (k := c23_315) (n := k23_316) (Nat.le_of_eq (FF.out ec23_315).symm) (Nat.le_of_eq (FF.out ek23_316).symm) (W.eq (g2 := F0 m 26 ls [.ref d23_377X.root]) rfl ?_)
        refine lv_astore (lv' := [(7, .ref d23_377X.root), (6, .ref d12_377X.root), (0, .ref mm), (1, .int v0), (2, .int v1), (3, .int v2), (4, .ref aso), (5, .ref ant)]) hx hb dX16_decided_26 hl (by decide) rfl (fun ls hl => ?_)
        refine lv_aload hx hb dX16_decided_28 (lv_at hl 1 rfl) ?_
        refine lv_ifnull hx hb dX16_decided_30 ?_
        refine lv_aload hx hb dX16_decided_33 (lv_at hl 0 rfl) ?_
        refine lv_ifnull hx hb dX16_decided_35 ?_
        refine lv_aload hx hb dX16_decided_38 (lv_at hl 1 rfl) ?_
        obtain ⟨m40_1, gm40_1⟩ : ∃ m9 : Nat, m9 + c23_315 = MC := ⟨MC - c23_315, Nat.sub_add_cancel (FF.out mc23_315)⟩
        have em40_1 := FF.mk gm40_1
        obtain ⟨m40_2, gm40_2⟩ : ∃ m9 : Nat, m9 + k23_316 = MS := ⟨MS - k23_316, Nat.sub_add_cancel (FF.out mk23_316)⟩
        have em40_2 := FF.mk gm40_2
        refine gt_P (pl := (pl)) (pl1 := fun _ => (pl)) (wr := [(mm, .inr (16, fs_mm)), (ute, .inl (ct 5, TN, .inr (.inr (.inr (.inr g_ute))))), (uye, .inl (ct 1, TL, .inl g_uye)), (uno_, .inl (ct 1, TL, .inl g_uno_)), (aso, .inl (ct 1, TQ, .inl g_aso)), (ant, .inl (ct 1, TQ, .inl g_ant))]) [] [0, 1, 2, 3, 4, 5] (rt_S (As := [.ref d12_377X.root]) (rest := []) (c_X16_placeOf l hst D ct m40_1 m40_2 (pl) d12_377X d12_377v d12_377x d12_377z od12_377 ud12_377 hd12_377 _) (cb_of (n := 1) hn mw_2242 mw_13 mw_2240 mhX16_placeOf ⟨(Nat.le_of_ble_eq_true rfl), (Nat.le_of_ble_eq_true rfl)⟩) hx hb hml hown hn hK hSK hZ hS mw_2241 rfl hl.1 (Nat.le_of_ble_eq_true rfl) dX16_decided_40 ⟨(Nat.le_of_eq ((Nat.add_comm _ _).trans gm40_1)), (Nat.le_of_eq ((Nat.add_comm _ _).trans gm40_2))⟩) hP hD hS hA rfl rfl (by decide) (by decide) (by decide) (fun xq40_6 ux40_7 xfs40_8 H locs hpx40_9 hpexfs40_8 hP hD hS => ?_) (fun r40_3 u40_4 H locs hp40_5 hP hD hS => ?_)
        · exact hpx40_9.elim
        obtain ⟨kc40_310, kn40_311⟩ := u40_4
        obtain ⟨hp40_312, hp40_313, hp40_314⟩ := hp40_5
        have hp40_312 : rl r40_3 0 4294967295 := hp40_312
        replace hp40_313 : FF (((kc40_310 : Nat) : Int) = 0) := hp40_313
        replace hp40_314 : FF (((kn40_311 : Nat) : Int) = 0) := hp40_314
        obtain ⟨c40_315, ec40_315⟩ : ∃ x9 : Nat, x9 = c23_315 + kc40_310 := ⟨_, rfl⟩
        have ec40_315 := FF.mk ec40_315
        have mc40_315 : FF (c40_315 ≤ MC) := FF.mk (Int.ofNat_le.mp (show ((c40_315 : Nat) : Int) ≤ ((MC : Nat) : Int) by have q0 := FF.out mc23_315; have q1 := FF.out hp40_313; have q2 := FF.out ec40_315; omega))
        obtain ⟨k40_316, ek40_316⟩ : ∃ x9 : Nat, x9 = k23_316 + kn40_311 := ⟨_, rfl⟩
        have ek40_316 := FF.mk ek40_316
        have mk40_316 : FF (k40_316 ≤ MS) := FF.mk (Int.ofNat_le.mp (show ((k40_316 : Nat) : Int) ≤ ((MS : Nat) : Int) by have q0 := FF.out mk23_316; have q1 := FF.out hp40_314; have q2 := FF.out ek40_316; omega))
        have hP : va_P D vwCl ([(mm, .inr (16, fs_mm)), (ute, .inl (ct 5, TN, .inr (.inr (.inr (.inr g_ute))))), (uye, .inl (ct 1, TL, .inl g_uye)), (uno_, .inl (ct 1, TL, .inl g_uno_)), (aso, .inl (ct 1, TQ, .inl g_aso)), (ant, .inl (ct 1, TQ, .inl g_ant))] ++ (pl)) _ := hP
        have hD : va_D A ([(mm, .inr (16, fs_mm)), (ute, .inl (ct 5, TN, .inr (.inr (.inr (.inr g_ute))))), (uye, .inl (ct 1, TL, .inl g_uye)), (uno_, .inl (ct 1, TL, .inl g_uno_)), (aso, .inl (ct 1, TQ, .inl g_aso)), (ant, .inl (ct 1, TQ, .inl g_ant))] ++ (pl)) := hD
        refine W.widen (k := c40_315) (n := k40_316) (Nat.le_of_eq (FF.out ec40_315).symm) (Nat.le_of_eq (FF.out ek40_316).symm) (W.eq (g2 := F0 m 43 ls [.long r40_3]) rfl ?_)
        refine lv_aload hx hb dX16_decided_43 (lv_at hl 0 rfl) ?_
        obtain ⟨m45_1, gm45_1⟩ : ∃ m9 : Nat, m9 + c40_315 = MC := ⟨MC - c40_315, Nat.sub_add_cancel (FF.out mc40_315)⟩
        have em45_1 := FF.mk gm45_1
        obtain ⟨m45_2, gm45_2⟩ : ∃ m9 : Nat, m9 + k40_316 = MS := ⟨MS - k40_316, Nat.sub_add_cancel (FF.out mk40_316)⟩
        have em45_2 := FF.mk gm45_2
        refine gt_P (pl := (pl)) (pl1 := fun _ => (pl)) (wr := [(mm, .inr (16, fs_mm)), (ute, .inl (ct 5, TN, .inr (.inr (.inr (.inr g_ute))))), (uye, .inl (ct 1, TL, .inl g_uye)), (uno_, .inl (ct 1, TL, .inl g_uno_)), (aso, .inl (ct 1, TQ, .inl g_aso)), (ant, .inl (ct 1, TQ, .inl g_ant))]) [] [0, 1, 2, 3, 4, 5] (rt_S (As := [.ref d23_377X.root]) (rest := [.long r40_3]) (c_X16_placeOf l hst D ct m45_1 m45_2 (pl) d23_377X d23_377v d23_377x d23_377z od23_377 ud23_377 hd23_377 _) (cb_of (n := 1) hn mw_2242 mw_13 mw_2240 mhX16_placeOf ⟨(Nat.le_of_ble_eq_true rfl), (Nat.le_of_ble_eq_true rfl)⟩) hx hb hml hown hn hK hSK hZ hS mw_2241 rfl hl.1 (Nat.le_of_ble_eq_true rfl) dX16_decided_45 ⟨(Nat.le_of_eq ((Nat.add_comm _ _).trans gm45_1)), (Nat.le_of_eq ((Nat.add_comm _ _).trans gm45_2))⟩) hP hD hS hA rfl rfl (by decide) (by decide) (by decide) (fun xq45_6 ux45_7 xfs45_8 H locs hpx45_9 hpexfs45_8 hP hD hS => ?_) (fun r45_3 u45_4 H locs hp45_5 hP hD hS => ?_)
        · exact hpx45_9.elim
        obtain ⟨kc45_310, kn45_311⟩ := u45_4
        obtain ⟨hp45_312, hp45_313, hp45_314⟩ := hp45_5
        have hp45_312 : rl r45_3 0 4294967295 := hp45_312
        replace hp45_313 : FF (((kc45_310 : Nat) : Int) = 0) := hp45_313
        replace hp45_314 : FF (((kn45_311 : Nat) : Int) = 0) := hp45_314
        obtain ⟨c45_315, ec45_315⟩ : ∃ x9 : Nat, x9 = c40_315 + kc45_310 := ⟨_, rfl⟩
        have ec45_315 := FF.mk ec45_315
        have mc45_315 : FF (c45_315 ≤ MC) := FF.mk (Int.ofNat_le.mp (show ((c45_315 : Nat) : Int) ≤ ((MC : Nat) : Int) by have q0 := FF.out mc40_315; have q1 := FF.out hp45_313; have q2 := FF.out ec45_315; omega))
        obtain ⟨k45_316, ek45_316⟩ : ∃ x9 : Nat, x9 = k40_316 + kn45_311 := ⟨_, rfl⟩
        have ek45_316 := FF.mk ek45_316
        have mk45_316 : FF (k45_316 ≤ MS) := FF.mk (Int.ofNat_le.mp (show ((k45_316 : Nat) : Int) ≤ ((MS : Nat) : Int) by have q0 := FF.out mk40_316; have q1 := FF.out hp45_314; have q2 := FF.out ek45_316; omega))
        have hP : va_P D vwCl ([(mm, .inr (16, fs_mm)), (ute, .inl (ct 5, TN, .inr (.inr (.inr (.inr g_ute))))), (uye, .inl (ct 1, TL, .inl g_uye)), (uno_, .inl (ct 1, TL, .inl g_uno_)), (aso, .inl (ct 1, TQ, .inl g_aso)), (ant, .inl (ct 1, TQ, .inl g_ant))] ++ (pl)) _ := hP
        have hD : va_D A ([(mm, .inr (16, fs_mm)), (ute, .inl (ct 5, TN, .inr (.inr (.inr (.inr g_ute))))), (uye, .inl (ct 1, TL, .inl g_uye)), (uno_, .inl (ct 1, TL, .inl g_uno_)), (aso, .inl (ct 1, TQ, .inl g_aso)), (ant, .inl (ct 1, TQ, .inl g_ant))] ++ (pl)) := hD
        refine W.widen (k := c45_315) (n := k45_316) (Nat.le_of_eq (FF.out ec45_315).symm) (Nat.le_of_eq (FF.out ek45_316).symm) (W.eq (g2 := F0 m 48 ls [.long r45_3, .long r40_3]) rfl ?_)
        refine W.lcmp hx hb dX16_decided_48 ?_
        refine lv_topi (fun z48_1 ez48_1 => ?_)
        refine lv_if_ne (tgt := 65) hx hb dX16_decided_49 (by decide) (fun c49_1 => ?_) (fun c49_1 => ?_)
        · have t49_2 := FF.mk (l_ne ez48_1 c49_1)
          refine lv_iload_n hx hb dX16_decided_65 rfl (lv_at hl 4 rfl) ?_
          exact et_i (SX := Unit) (pl1 := fun _ => pl) hQ hx hb hr hlocks dX16_decided_66 rfl (c45_315, k45_316) ⟨(show ((c45_315 : Nat) : Int) = 0 by have q0 := FF.out hp12_313; have q1 := FF.out ec12_315; have q2 := FF.out hp23_313; have q3 := FF.out ec23_315; have q4 := FF.out hp40_313; have q5 := FF.out ec40_315; have q6 := FF.out hp45_313; have q7 := FF.out ec45_315; omega), (show ((k45_316 : Nat) : Int) = 0 by have q0 := FF.out hp12_314; have q1 := FF.out ek12_316; have q2 := FF.out hp23_314; have q3 := FF.out ek23_316; have q4 := FF.out hp40_314; have q5 := FF.out ek40_316; have q6 := FF.out hp45_314; have q7 := FF.out ek45_316; omega), (show v1.toInt = v1.toInt ∨ (0 ≤ v1.toInt ∧ ((v1.toInt < 0 ∧ -2 ≤ v1.toInt) ∨ (v1.toInt < v1.toInt ∧ v1.toInt < x_mm_15.toInt))) by omega)⟩ hP hD hS [0, 1, 2, 3, 4, 5] (by decide) rfl (Nat.le_refl _) (Nat.le_refl _) (FF.out mc45_315) (FF.out mk45_316)
        · have t49_2 := FF.mk (l_eq ez48_1 c49_1)
          refine lv_aload hx hb dX16_decided_52 (lv_at hl 1 rfl) ?_
          obtain ⟨k54_1, hk54_1⟩ := pl_get (X := [(mm, .inr (16, fs_mm)), (ute, .inl (ct 5, TN, .inr (.inr (.inr (.inr g_ute))))), (uye, .inl (ct 1, TL, .inl g_uye)), (uno_, .inl (ct 1, TL, .inl g_uno_)), (aso, .inl (ct 1, TQ, .inl g_aso)), (ant, .inl (ct 1, TQ, .inl g_ant))]) hm12_379
          refine va_get (D := D) (ci := 14) (v := .int d12_377z) (C := RX14) (T := TX14) (N := 5) hx hb (htX14 hn) (fun _ h => h) hown hK hP k54_1 hk54_1 rfl 4 (by decide) (hn.get mw_2055 rfl) (fun _ h9 => h9) rfl dX16_decided_54 ?_
          refine lv_aload hx hb dX16_decided_57 (lv_at hl 0 rfl) ?_
          obtain ⟨k59_1, hk59_1⟩ := pl_get (X := [(mm, .inr (16, fs_mm)), (ute, .inl (ct 5, TN, .inr (.inr (.inr (.inr g_ute))))), (uye, .inl (ct 1, TL, .inl g_uye)), (uno_, .inl (ct 1, TL, .inl g_uno_)), (aso, .inl (ct 1, TQ, .inl g_aso)), (ant, .inl (ct 1, TQ, .inl g_ant))]) hm23_379
          refine va_get (D := D) (ci := 14) (v := .int d23_377z) (C := RX14) (T := TX14) (N := 5) hx hb (htX14 hn) (fun _ h => h) hown hK hP k59_1 hk59_1 rfl 4 (by decide) (hn.get mw_2055 rfl) (fun _ h9 => h9) rfl dX16_decided_59 ?_
          refine lv_icmp_eq (tgt := 67) hx hb dX16_decided_62 (by decide) (fun c62_1 => ?_) (fun c62_1 => ?_)
          · have t62_2 := FF.mk (i_eq c62_1)
            have hk67_1 : FF (((g_aso v1.toNatClampNeg).toInt < 0 ∧ -2 ≤ (g_aso v1.toNatClampNeg).toInt) ∨ (v1.toInt < (g_aso v1.toNatClampNeg).toInt ∧ (g_aso v1.toNatClampNeg).toInt < x_mm_15.toInt)) := FF.mk (FWA.at hg1 (show 0 ≤ v1.toInt by have q0 := FF.out t1_2; have q1 := (show (0 : Int32).toInt = 0 from by decide); omega) (show v1.toInt < x_mm_15.toInt by have q0 := FF.out hq6; omega))
            have hk67_2 : FF (((g_ant v1.toNatClampNeg).toInt < 0 ∧ -2 ≤ (g_ant v1.toNatClampNeg).toInt) ∨ (v1.toInt < (g_ant v1.toNatClampNeg).toInt ∧ (g_ant v1.toNatClampNeg).toInt < x_mm_15.toInt)) := FF.mk (FWA.at hg2 (show 0 ≤ v1.toInt by have q0 := FF.out t1_2; have q1 := (show (0 : Int32).toInt = 0 from by decide); omega) (show v1.toInt < x_mm_15.toInt by have q0 := FF.out hq6; omega))
            refine lv_aload_n hx hb dX16_decided_67 rfl (lv_at hl 2 rfl) ?_
            refine va_get (D := D) (ci := 16) (v := .ref ute) (C := RX16) (T := TX16) (N := 78) hx hb (htX16 hn) (fun _ h => h) hown hK hP 0 rfl rfl 14 (by decide) (hn.get mw_1553 rfl) (fun _ h9 => h9) hf_mm_14 dX16_decided_68 ?_
            refine lv_iload_n hx hb dX16_decided_71 rfl (lv_at hl 3 rfl) ?_
            have hi72_1 : vp_in v0 TN := (in_of (show 0 ≤ v0.toInt ∧ v0.toInt < ((TN : Nat) : Int) by have q0 := FF.out hq0; have q1 := FF.out hq3; have q2 := FF.out hq4; omega))
            refine aq_ld hx hb hK hP 1 5 rfl rfl hi72_1 gq11_1 dX16_decided_72 ?_
            obtain ⟨k73_1, hk73_1⟩ := pl_get (X := [(mm, .inr (16, fs_mm)), (ute, .inl (ct 5, TN, .inr (.inr (.inr (.inr g_ute))))), (uye, .inl (ct 1, TL, .inl g_uye)), (uno_, .inl (ct 1, TL, .inl g_uno_)), (aso, .inl (ct 1, TQ, .inl g_aso)), (ant, .inl (ct 1, TQ, .inl g_ant))]) hmq11_1
            refine va_get (D := D) (ci := 12) (v := .ref q11_1r.root) (C := RX12) (T := TX12) (N := 7) hx hb (htX12 hn) (fun _ h => h) hown hK hP k73_1 hk73_1 rfl 4 (by decide) (hn.get mw_1983 rfl) (fun _ h9 => h9) rfl dX16_decided_73 ?_
            obtain ⟨y76_1k, y76_1v, y76_1a, y76_1b, y76_1z, fy76_1⟩ := ST.any_ orq11_1
            have my76_1 := ST.nodeP orq11_1 urq11_1 fy76_1
            obtain ⟨y76_1, hy76_1⟩ := pl_get (X := [(mm, .inr (16, fs_mm)), (ute, .inl (ct 5, TN, .inr (.inr (.inr (.inr g_ute))))), (uye, .inl (ct 1, TL, .inl g_uye)), (uno_, .inl (ct 1, TL, .inl g_uno_)), (aso, .inl (ct 1, TQ, .inl g_aso)), (ant, .inl (ct 1, TQ, .inl g_ant))]) my76_1
            refine va_get (D := D) (ci := 14) (v := .long y76_1v) (C := RX14) (T := TX14) (N := 5) hx hb (htX14 hn) (fun _ h => h) hown hK hP y76_1 hy76_1 rfl 1 (by decide) (hn.get mw_2049 rfl) (fun _ h9 => h9) rfl dX16_decided_76 ?_
            refine lv_aload_n hx hb dX16_decided_79 rfl (lv_at hl 2 rfl) ?_
            refine va_get (D := D) (ci := 16) (v := .ref ute) (C := RX16) (T := TX16) (N := 78) hx hb (htX16 hn) (fun _ h => h) hown hK hP 0 rfl rfl 14 (by decide) (hn.get mw_1553 rfl) (fun _ h9 => h9) hf_mm_14 dX16_decided_80 ?_
            refine lv_iload_n hx hb dX16_decided_83 rfl (lv_at hl 4 rfl) ?_
            have hi84_1 : vp_in v1 TN := (in_of (show 0 ≤ v1.toInt ∧ v1.toInt < ((TN : Nat) : Int) by have q0 := FF.out hq0; have q1 := FF.out hq6; have q2 := FF.out t1_2; have q3 := (show (0 : Int32).toInt = 0 from by decide); omega))
            refine aq_ld hx hb hK hP 1 5 rfl rfl hi84_1 gq22_1 dX16_decided_84 ?_
            obtain ⟨k85_1, hk85_1⟩ := pl_get (X := [(mm, .inr (16, fs_mm)), (ute, .inl (ct 5, TN, .inr (.inr (.inr (.inr g_ute))))), (uye, .inl (ct 1, TL, .inl g_uye)), (uno_, .inl (ct 1, TL, .inl g_uno_)), (aso, .inl (ct 1, TQ, .inl g_aso)), (ant, .inl (ct 1, TQ, .inl g_ant))]) hmq22_1
            refine va_get (D := D) (ci := 12) (v := .ref q22_1r.root) (C := RX12) (T := TX12) (N := 7) hx hb (htX12 hn) (fun _ h => h) hown hK hP k85_1 hk85_1 rfl 4 (by decide) (hn.get mw_1983 rfl) (fun _ h9 => h9) rfl dX16_decided_85 ?_
            obtain ⟨y88_1k, y88_1v, y88_1a, y88_1b, y88_1z, fy88_1⟩ := ST.any_ orq22_1
            have my88_1 := ST.nodeP orq22_1 urq22_1 fy88_1
            obtain ⟨y88_1, hy88_1⟩ := pl_get (X := [(mm, .inr (16, fs_mm)), (ute, .inl (ct 5, TN, .inr (.inr (.inr (.inr g_ute))))), (uye, .inl (ct 1, TL, .inl g_uye)), (uno_, .inl (ct 1, TL, .inl g_uno_)), (aso, .inl (ct 1, TQ, .inl g_aso)), (ant, .inl (ct 1, TQ, .inl g_ant))]) my88_1
            refine va_get (D := D) (ci := 14) (v := .long y88_1v) (C := RX14) (T := TX14) (N := 5) hx hb (htX14 hn) (fun _ h => h) hown hK hP y88_1 hy88_1 rfl 1 (by decide) (hn.get mw_2049 rfl) (fun _ h9 => h9) rfl dX16_decided_88 ?_
            refine W.lcmp hx hb dX16_decided_91 ?_
            refine lv_topi (fun z91_1 ez91_1 => ?_)
            refine lv_if_ne (tgt := 99) hx hb dX16_decided_92 (by decide) (fun c92_1 => ?_) (fun c92_1 => ?_)
            · have t92_2 := FF.mk (l_ne ez91_1 c92_1)
              refine lv_iconst (v := 0) hx hb dX16_decided_99 (by decide) ?_
              refine lv_istore (lv' := [(8, .int 0), (7, .ref d23_377X.root), (6, .ref d12_377X.root), (0, .ref mm), (1, .int v0), (2, .int v1), (3, .int v2), (4, .ref aso), (5, .ref ant)]) hx hb dX16_decided_100 hl (by decide) rfl (fun ls hl => ?_)
              refine lv_iload_n hx hb dX16_decided_102 rfl (lv_at hl 6 rfl) ?_
              refine lv_if_eq (tgt := 123) hx hb dX16_decided_103 (by decide) (fun c103_1 => ?_) (fun c103_1 => ?_)
              · have t103_2 := FF.mk (i_eq c103_1)
                have r103_3 : rg v2 0 0 := rg_eqA t103_2 h_v2 (show rg (0 : Int32) 0 0 from rg_l (by decide)) (by decide)
                refine lv_iload hx hb dX16_decided_123 (lv_at hl 0 rfl) ?_
                refine lv_if_eq (tgt := 135) hx hb dX16_decided_125 (by decide) (fun c125_1 => ?_) (fun c125_1 => absurd (by decide) c125_1)
                refine lv_iload_n hx hb dX16_decided_135 rfl (lv_at hl 5 rfl) ?_
                exact et_i (SX := Unit) (pl1 := fun _ => pl) hQ hx hb hr hlocks dX16_decided_136 rfl (c45_315, k45_316) ⟨(show ((c45_315 : Nat) : Int) = 0 by have q0 := FF.out hp12_313; have q1 := FF.out ec12_315; have q2 := FF.out hp23_313; have q3 := FF.out ec23_315; have q4 := FF.out hp40_313; have q5 := FF.out ec40_315; have q6 := FF.out hp45_313; have q7 := FF.out ec45_315; omega), (show ((k45_316 : Nat) : Int) = 0 by have q0 := FF.out hp12_314; have q1 := FF.out ek12_316; have q2 := FF.out hp23_314; have q3 := FF.out ek23_316; have q4 := FF.out hp40_314; have q5 := FF.out ek40_316; have q6 := FF.out hp45_314; have q7 := FF.out ek45_316; omega), (show v1.toInt = v1.toInt ∨ (0 ≤ v1.toInt ∧ ((v1.toInt < 0 ∧ -2 ≤ v1.toInt) ∨ (v1.toInt < v1.toInt ∧ v1.toInt < x_mm_15.toInt))) by omega)⟩ hP hD hS [0, 1, 2, 3, 4, 5] (by decide) rfl (Nat.le_refl _) (Nat.le_refl _) (FF.out mc45_315) (FF.out mk45_316)
              · have t103_2 := FF.mk (i_ne c103_1)
                have r103_3 : rg v2 1 1 := rg_neAl t103_2 h_v2 (show rg (0 : Int32) 0 0 from rg_l (by decide)) (by decide)
                refine lv_iload hx hb dX16_decided_106 (lv_at hl 0 rfl) ?_
                refine lv_if_eq (tgt := 118) hx hb dX16_decided_108 (by decide) (fun c108_1 => ?_) (fun c108_1 => absurd (by decide) c108_1)
                refine lv_aload hx hb dX16_decided_118 (lv_at hl 8 rfl) ?_
                refine lv_iload_n hx hb dX16_decided_120 rfl (lv_at hl 5 rfl) ?_
                have hi121_1 : vp_in v1 TQ := (in_of (show 0 ≤ v1.toInt ∧ v1.toInt < ((TQ : Nat) : Int) by have q0 := FF.out hq2; have q1 := FF.out hq6; have q2 := FF.out t1_2; have q3 := (show (0 : Int32).toInt = 0 from by decide); omega))
                refine va_iald hx hb hK hP 5 1 rfl rfl hi121_1 dX16_decided_121 ?_
                refine lv_topi (fun z121_2 ez121_2 => ?_)
                exact et_i (SX := Unit) (pl1 := fun _ => pl) hQ hx hb hr hlocks dX16_decided_122 rfl (c45_315, k45_316) ⟨(show ((c45_315 : Nat) : Int) = 0 by have q0 := FF.out hp12_313; have q1 := FF.out ec12_315; have q2 := FF.out hp23_313; have q3 := FF.out ec23_315; have q4 := FF.out hp40_313; have q5 := FF.out ec40_315; have q6 := FF.out hp45_313; have q7 := FF.out ec45_315; omega), (show ((k45_316 : Nat) : Int) = 0 by have q0 := FF.out hp12_314; have q1 := FF.out ek12_316; have q2 := FF.out hp23_314; have q3 := FF.out ek23_316; have q4 := FF.out hp40_314; have q5 := FF.out ek40_316; have q6 := FF.out hp45_314; have q7 := FF.out ek45_316; omega), (show z121_2.toInt = v1.toInt ∨ (0 ≤ v1.toInt ∧ ((z121_2.toInt < 0 ∧ -2 ≤ z121_2.toInt) ∨ (v1.toInt < z121_2.toInt ∧ z121_2.toInt < x_mm_15.toInt))) by have q0 := (congrArg Int32.toInt ez121_2); have q1 := FF.out t1_2; have q2 := FF.out hk67_2; have q3 := (show (0 : Int32).toInt = 0 from by decide); omega)⟩ hP hD hS [0, 1, 2, 3, 4, 5] (by decide) rfl (Nat.le_refl _) (Nat.le_refl _) (FF.out mc45_315) (FF.out mk45_316)
            · have t92_2 := FF.mk (l_eq ez91_1 c92_1)
              refine lv_iconst (v := 1) hx hb dX16_decided_95 (by decide) ?_
              refine lv_goto (tgt := 100) hx hb dX16_decided_96 (by decide) ?_
              refine lv_istore (lv' := [(8, .int 1), (7, .ref d23_377X.root), (6, .ref d12_377X.root), (0, .ref mm), (1, .int v0), (2, .int v1), (3, .int v2), (4, .ref aso), (5, .ref ant)]) hx hb dX16_decided_100 hl (by decide) rfl (fun ls hl => ?_)
              refine lv_iload_n hx hb dX16_decided_102 rfl (lv_at hl 6 rfl) ?_
              refine lv_if_eq (tgt := 123) hx hb dX16_decided_103 (by decide) (fun c103_1 => ?_) (fun c103_1 => ?_)
              · have t103_2 := FF.mk (i_eq c103_1)
                have r103_3 : rg v2 0 0 := rg_eqA t103_2 h_v2 (show rg (0 : Int32) 0 0 from rg_l (by decide)) (by decide)
                refine lv_iload hx hb dX16_decided_123 (lv_at hl 0 rfl) ?_
                refine lv_if_eq (tgt := 135) hx hb dX16_decided_125 (by decide) (fun c125_1 => absurd c125_1 (by decide)) (fun c125_1 => ?_)
                refine lv_aload hx hb dX16_decided_128 (lv_at hl 8 rfl) ?_
                refine lv_iload_n hx hb dX16_decided_130 rfl (lv_at hl 5 rfl) ?_
                have hi131_1 : vp_in v1 TQ := (in_of (show 0 ≤ v1.toInt ∧ v1.toInt < ((TQ : Nat) : Int) by have q0 := FF.out hq2; have q1 := FF.out hq6; have q2 := FF.out t1_2; have q3 := (show (0 : Int32).toInt = 0 from by decide); omega))
                refine va_iald hx hb hK hP 5 1 rfl rfl hi131_1 dX16_decided_131 ?_
                refine lv_topi (fun z131_2 ez131_2 => ?_)
                refine lv_goto (tgt := 136) hx hb dX16_decided_132 (by decide) ?_
                exact et_i (SX := Unit) (pl1 := fun _ => pl) hQ hx hb hr hlocks dX16_decided_136 rfl (c45_315, k45_316) ⟨(show ((c45_315 : Nat) : Int) = 0 by have q0 := FF.out hp12_313; have q1 := FF.out ec12_315; have q2 := FF.out hp23_313; have q3 := FF.out ec23_315; have q4 := FF.out hp40_313; have q5 := FF.out ec40_315; have q6 := FF.out hp45_313; have q7 := FF.out ec45_315; omega), (show ((k45_316 : Nat) : Int) = 0 by have q0 := FF.out hp12_314; have q1 := FF.out ek12_316; have q2 := FF.out hp23_314; have q3 := FF.out ek23_316; have q4 := FF.out hp40_314; have q5 := FF.out ek40_316; have q6 := FF.out hp45_314; have q7 := FF.out ek45_316; omega), (show z131_2.toInt = v1.toInt ∨ (0 ≤ v1.toInt ∧ ((z131_2.toInt < 0 ∧ -2 ≤ z131_2.toInt) ∨ (v1.toInt < z131_2.toInt ∧ z131_2.toInt < x_mm_15.toInt))) by have q0 := (congrArg Int32.toInt ez131_2); have q1 := FF.out t1_2; have q2 := FF.out hk67_2; have q3 := (show (0 : Int32).toInt = 0 from by decide); omega)⟩ hP hD hS [0, 1, 2, 3, 4, 5] (by decide) rfl (Nat.le_refl _) (Nat.le_refl _) (FF.out mc45_315) (FF.out mk45_316)
              · have t103_2 := FF.mk (i_ne c103_1)
                have r103_3 : rg v2 1 1 := rg_neAl t103_2 h_v2 (show rg (0 : Int32) 0 0 from rg_l (by decide)) (by decide)
                refine lv_iload hx hb dX16_decided_106 (lv_at hl 0 rfl) ?_
                refine lv_if_eq (tgt := 118) hx hb dX16_decided_108 (by decide) (fun c108_1 => absurd c108_1 (by decide)) (fun c108_1 => ?_)
                refine lv_aload hx hb dX16_decided_111 (lv_at hl 7 rfl) ?_
                refine lv_iload_n hx hb dX16_decided_113 rfl (lv_at hl 5 rfl) ?_
                have hi114_1 : vp_in v1 TQ := (in_of (show 0 ≤ v1.toInt ∧ v1.toInt < ((TQ : Nat) : Int) by have q0 := FF.out hq2; have q1 := FF.out hq6; have q2 := FF.out t1_2; have q3 := (show (0 : Int32).toInt = 0 from by decide); omega))
                refine va_iald hx hb hK hP 4 1 rfl rfl hi114_1 dX16_decided_114 ?_
                refine lv_topi (fun z114_2 ez114_2 => ?_)
                refine lv_goto (tgt := 122) hx hb dX16_decided_115 (by decide) ?_
                exact et_i (SX := Unit) (pl1 := fun _ => pl) hQ hx hb hr hlocks dX16_decided_122 rfl (c45_315, k45_316) ⟨(show ((c45_315 : Nat) : Int) = 0 by have q0 := FF.out hp12_313; have q1 := FF.out ec12_315; have q2 := FF.out hp23_313; have q3 := FF.out ec23_315; have q4 := FF.out hp40_313; have q5 := FF.out ec40_315; have q6 := FF.out hp45_313; have q7 := FF.out ec45_315; omega), (show ((k45_316 : Nat) : Int) = 0 by have q0 := FF.out hp12_314; have q1 := FF.out ek12_316; have q2 := FF.out hp23_314; have q3 := FF.out ek23_316; have q4 := FF.out hp40_314; have q5 := FF.out ek40_316; have q6 := FF.out hp45_314; have q7 := FF.out ek45_316; omega), (show z114_2.toInt = v1.toInt ∨ (0 ≤ v1.toInt ∧ ((z114_2.toInt < 0 ∧ -2 ≤ z114_2.toInt) ∨ (v1.toInt < z114_2.toInt ∧ z114_2.toInt < x_mm_15.toInt))) by have q0 := (congrArg Int32.toInt ez114_2); have q1 := FF.out t1_2; have q2 := FF.out hk67_1; have q3 := (show (0 : Int32).toInt = 0 from by decide); omega)⟩ hP hD hS [0, 1, 2, 3, 4, 5] (by decide) rfl (Nat.le_refl _) (Nat.le_refl _) (FF.out mc45_315) (FF.out mk45_316)
          · have t62_2 := FF.mk (i_ne c62_1)
            refine lv_iload_n hx hb dX16_decided_65 rfl (lv_at hl 4 rfl) ?_
            exact et_i (SX := Unit) (pl1 := fun _ => pl) hQ hx hb hr hlocks dX16_decided_66 rfl (c45_315, k45_316) ⟨(show ((c45_315 : Nat) : Int) = 0 by have q0 := FF.out hp12_313; have q1 := FF.out ec12_315; have q2 := FF.out hp23_313; have q3 := FF.out ec23_315; have q4 := FF.out hp40_313; have q5 := FF.out ec40_315; have q6 := FF.out hp45_313; have q7 := FF.out ec45_315; omega), (show ((k45_316 : Nat) : Int) = 0 by have q0 := FF.out hp12_314; have q1 := FF.out ek12_316; have q2 := FF.out hp23_314; have q3 := FF.out ek23_316; have q4 := FF.out hp40_314; have q5 := FF.out ek40_316; have q6 := FF.out hp45_314; have q7 := FF.out ek45_316; omega), (show v1.toInt = v1.toInt ∨ (0 ≤ v1.toInt ∧ ((v1.toInt < 0 ∧ -2 ≤ v1.toInt) ∨ (v1.toInt < v1.toInt ∧ v1.toInt < x_mm_15.toInt))) by omega)⟩ hP hD hS [0, 1, 2, 3, 4, 5] (by decide) rfl (Nat.le_refl _) (Nat.le_refl _) (FF.out mc45_315) (FF.out mk45_316)
  · have t1_2 := FF.mk (i_nle c1_1)
    have r1_3 : rg v1 (-2147483648) (-1) := rg_ltA t1_2 (rg_any v1) (show rg (0 : Int32) 0 0 from rg_l (by decide)) (by decide)
    refine lv_iload_n hx hb dX16_decided_4 rfl (lv_at hl 2 rfl) ?_
    exact et_i (SX := Unit) (pl1 := fun _ => pl) hQ hx hb hr hlocks dX16_decided_5 rfl (0, 0) ⟨(show ((0 : Nat) : Int) = 0 by omega), (show ((0 : Nat) : Int) = 0 by omega), (show v1.toInt = v1.toInt ∨ (0 ≤ v1.toInt ∧ ((v1.toInt < 0 ∧ -2 ≤ v1.toInt) ∨ (v1.toInt < v1.toInt ∧ v1.toInt < x_mm_15.toInt))) by omega)⟩ hP hD hS [0, 1, 2, 3, 4, 5] (by decide) rfl (Nat.le_refl _) (Nat.le_refl _) (Nat.zero_le MC) (Nat.zero_le MS)
set_option maxHeartbeats 2000000 in
theorem c_X16_decide (l : Launch) (hst : l.stackTraces = false) (D : va_G) (ct : Nat → ClassId) (MC : Nat) (MS : Nat) (pl : va_W) (mm : Nat) (aso : Nat) (ant : Nat) (fs_mm : List Value) (ute : Nat) (x_mm_15 : Int32) (uye : Nat) (uno_ : Nat) (g_ute : Nat → Option Nat) (TN : Nat) (g_uye : Nat → Int32) (TL : Nat) (g_uno_ : Nat → Int32) (g_aso : Nat → Int32) (TQ : Nat) (g_ant : Nat → Int32) (hlen_mm : fs_mm.length = 78) (hf_mm_14 : fs_mm[14]? = some (.ref ute)) (h_x_mm_15 : rg x_mm_15 0 34000) (hf_mm_15 : fs_mm[15]? = some (.int x_mm_15)) (hf_mm_16 : fs_mm[16]? = some (.ref uye)) (hf_mm_17 : fs_mm[17]? = some (.ref uno_)) (hq0 : x_mm_15.toInt ≤ ((TN : Nat) : Int)) (hq1 : x_mm_15.toInt ≤ ((TL : Nat) : Int)) (hq2 : x_mm_15.toInt ≤ ((TQ : Nat) : Int)) (hg0 : MT pl g_ute g_uye g_uno_ x_mm_15.toInt) (hg1 : FWA g_aso x_mm_15.toInt) (hg2 : FWA g_ant x_mm_15.toInt) : KP (V := Unit) (S := (Nat → Int32) × (Nat → Int32) × Nat × Nat) (SX := Unit) l yX16_decide cX16_decide 7 none 3 70 D ct [.ref mm, .ref aso, .ref ant] ([(mm, .inr (16, fs_mm)), (ute, .inl (ct 5, TN, .inr (.inr (.inr (.inr g_ute))))), (uye, .inl (ct 1, TL, .inl g_uye)), (uno_, .inl (ct 1, TL, .inl g_uno_)), (aso, .inl (ct 1, TQ, .inl g_aso)), (ant, .inl (ct 1, TQ, .inl g_ant))] ++ pl) MC MS (fun _ : Unit => none) (fun (_ : Unit) (u : (Nat → Int32) × (Nat → Int32) × Nat × Nat) => match u with | (k_aso, k_ant, kc, kn) => (((kc : Nat) : Int) = 0) ∧ (((kn : Nat) : Int) = 0) ∧ (FWA k_aso x_mm_15.toInt) ∧ (FWA k_ant x_mm_15.toInt)) (fun (u : (Nat → Int32) × (Nat → Int32) × Nat × Nat) => (match u with | (k_aso, k_ant, kc, kn) => [(mm, .inr (16, fs_mm)), (ute, .inl (ct 5, TN, .inr (.inr (.inr (.inr g_ute))))), (uye, .inl (ct 1, TL, .inl g_uye)), (uno_, .inl (ct 1, TL, .inl g_uno_)), (aso, .inl (ct 1, TQ, .inl k_aso)), (ant, .inl (ct 1, TQ, .inl k_ant))]) ++ pl) (fun (u : (Nat → Int32) × (Nat → Int32) × Nat × Nat) => match u with | (k_aso, k_ant, kc, kn) => kc) (fun (u : (Nat → Int32) × (Nat → Int32) × Nat × Nat) => match u with | (k_aso, k_ant, kc, kn) => kn) 15 RX15 peW (fun _ => False) (fun _ => ([] : va_W) ++ pl) (fun _ => 0) (fun _ => 0) := by
  refine KP_of (by decide) (Nat.le_of_ble_eq_true rfl) (fun p e s m below meth c A Q C0 htab hA H locs hS hP hD hQ ls hl => ?_)
  obtain ⟨hx, hb, hr, hown, hin, hml, hlocks, hn, hK, hZ, hSK⟩ := C0
  have hl : lv_has ls 7 [(0, .ref mm), (1, .ref aso), (2, .ref ant)] := hl
  replace hq0 := FF.mk hq0
  replace hq1 := FF.mk hq1
  replace hq2 := FF.mk hq2
  obtain ⟨u0_1m, u0_1⟩ := RKB.any (n := x_mm_15.toInt) g_aso g_ant (show 0 ≤ x_mm_15.toInt by have q0 := h_x_mm_15.1; omega)
  have hk0_2 : FF (((u0_1m : Nat) : Int) = ((u0_1m : Nat) : Int)) := rfl
  refine lv_iconst (v := 1) hx hb dX16_decide_0 (by decide) ?_
  refine lv_istore_n (lv' := [(3, .int 1), (0, .ref mm), (1, .ref aso), (2, .ref ant)]) hx hb dX16_decide_1 rfl hl (by decide) rfl (fun ls hl => ?_)
  have b2 : ∀ (n2 : Nat) (j2_accC : Nat) (j2_accS : Nat) (j2_l3 : Int32) (j2_nmu : Nat) (j2_caso : Nat → Int32) (j2_cant : Nat → Int32) (H : Heap) (locs : List Loc) (ls : Array Slot), (FF (((j2_accC : Nat) : Int) ≤ ((MC : Nat) : Int))) → (FF (((j2_accS : Nat) : Int) ≤ ((MS : Nat) : Int))) → (rg j2_l3 0 2) → (FWA j2_caso x_mm_15.toInt) → (FWA j2_cant x_mm_15.toInt) → (RKB j2_caso j2_cant x_mm_15.toInt j2_nmu) → (FF (((j2_accC : Nat) : Int) = 0)) → (FF (((j2_accS : Nat) : Int) = 0)) → (2 * ((j2_nmu : Nat) : Int) + j2_l3.toInt).toNat < n2 → lv_has ls 7 [(0, .ref mm), (1, .ref aso), (2, .ref ant), (3, .int j2_l3)] → va_P D vwCl ([(mm, .inr (16, fs_mm)), (ute, .inl (ct 5, TN, .inr (.inr (.inr (.inr g_ute))))), (uye, .inl (ct 1, TL, .inl g_uye)), (uno_, .inl (ct 1, TL, .inl g_uno_)), (aso, .inl (ct 1, TQ, .inl j2_caso)), (ant, .inl (ct 1, TQ, .inl j2_cant))] ++ (pl)) H → va_D A ([(mm, .inr (16, fs_mm)), (ute, .inl (ct 5, TN, .inr (.inr (.inr (.inr g_ute))))), (uye, .inl (ct 1, TL, .inl g_uye)), (uno_, .inl (ct 1, TL, .inl g_uno_)), (aso, .inl (ct 1, TQ, .inl j2_caso)), (ant, .inl (ct 1, TQ, .inl j2_cant))] ++ (pl)) → va_S A s.heap H locs → W p l e ({ frames := 3, cells := MC, slots := MS, locals := 70 }) s m [.ref mm, .ref aso, .ref ant].toArray below meth c H locs j2_accC j2_accS Q (F0 m 2 ls []) := by
    intro n2
    induction n2 with
    | zero => intros; rename_i hms _ _ _ _; exact absurd hms (Nat.not_lt_zero _)
    | succ n2 ih2 =>
      intro j2_accC j2_accS j2_l3 j2_nmu j2_caso j2_cant H locs ls hm2_1001 hm2_1002 r2_1003 hg2_1004 hg2_1005 hg2_1006 hi2_1007 hi2_1008 hms2 hl hP hD hS
      refine lv_iload_n hx hb dX16_decide_2 rfl (lv_at hl 3 rfl) ?_
      refine lv_if_eq (tgt := 111) hx hb dX16_decide_3 (by decide) (fun c3_1 => ?_) (fun c3_1 => ?_)
      · have t3_2 := FF.mk (i_eq c3_1)
        have r3_3 : rg j2_l3 0 0 := rg_eqA t3_2 r2_1003 (show rg (0 : Int32) 0 0 from rg_l (by decide)) (by decide)
        exact et_v (SX := Unit) (pl1 := fun _ => pl) hQ hx hb hr hlocks dX16_decide_111 (j2_caso, j2_cant, j2_accC, j2_accS) ⟨(show ((j2_accC : Nat) : Int) = 0 by have q0 := FF.out (FF.mk (Int.natCast_nonneg j2_accC)); have q1 := FF.out hi2_1007; omega), (show ((j2_accS : Nat) : Int) = 0 by have q0 := FF.out (FF.mk (Int.natCast_nonneg j2_accS)); have q1 := FF.out hi2_1008; omega), hg2_1004, hg2_1005⟩ hP hD hS [0, 1, 2, 3, 4, 5] (by decide) rfl (Nat.le_refl _) (Nat.le_refl _) (Int.ofNat_le.mp (FF.out hm2_1001)) (Int.ofNat_le.mp (FF.out hm2_1002))
      · have t3_2 := FF.mk (i_ne c3_1)
        have r3_3 : rg j2_l3 1 2 := rg_neAl t3_2 r2_1003 (show rg (0 : Int32) 0 0 from rg_l (by decide)) (by decide)
        refine lv_iconst (v := 0) hx hb dX16_decide_6 (by decide) ?_
        refine lv_istore_n (lv' := [(3, .int 0), (0, .ref mm), (1, .ref aso), (2, .ref ant)]) hx hb dX16_decide_7 rfl hl (by decide) rfl (fun ls hl => ?_)
        refine lv_iconst (v := 0) hx hb dX16_decide_8 (by decide) ?_
        refine lv_istore (lv' := [(4, .int 0), (3, .int 0), (0, .ref mm), (1, .ref aso), (2, .ref ant)]) hx hb dX16_decide_9 hl (by decide) rfl (fun ls hl => ?_)
        have b11 : ∀ (n11 : Nat) (j11_accC : Nat) (j11_accS : Nat) (j11_l3 : Int32) (j11_l4 : Int32) (j11_nmu : Nat) (j11_caso : Nat → Int32) (j11_cant : Nat → Int32) (H : Heap) (locs : List Loc) (ls : Array Slot), (FF (((j11_accC : Nat) : Int) ≤ ((MC : Nat) : Int))) → (FF (((j11_accS : Nat) : Int) ≤ ((MS : Nat) : Int))) → (rg j11_l3 0 2) → (rg j11_l4 0 34000) → (FWA j11_caso x_mm_15.toInt) → (FWA j11_cant x_mm_15.toInt) → (RKB j11_caso j11_cant x_mm_15.toInt j11_nmu) → (FF (((j11_accC : Nat) : Int) = 0)) → (FF (((j11_accS : Nat) : Int) = 0)) → (FF (((j11_nmu : Nat) : Int) + j11_l3.toInt ≤ ((j2_nmu : Nat) : Int))) → ((2147483647 : Int) - j11_l4.toInt).toNat < n11 → lv_has ls 7 [(0, .ref mm), (1, .ref aso), (2, .ref ant), (3, .int j11_l3), (4, .int j11_l4)] → va_P D vwCl ([(mm, .inr (16, fs_mm)), (ute, .inl (ct 5, TN, .inr (.inr (.inr (.inr g_ute))))), (uye, .inl (ct 1, TL, .inl g_uye)), (uno_, .inl (ct 1, TL, .inl g_uno_)), (aso, .inl (ct 1, TQ, .inl j11_caso)), (ant, .inl (ct 1, TQ, .inl j11_cant))] ++ (pl)) H → va_D A ([(mm, .inr (16, fs_mm)), (ute, .inl (ct 5, TN, .inr (.inr (.inr (.inr g_ute))))), (uye, .inl (ct 1, TL, .inl g_uye)), (uno_, .inl (ct 1, TL, .inl g_uno_)), (aso, .inl (ct 1, TQ, .inl j11_caso)), (ant, .inl (ct 1, TQ, .inl j11_cant))] ++ (pl)) → va_S A s.heap H locs → W p l e ({ frames := 3, cells := MC, slots := MS, locals := 70 }) s m [.ref mm, .ref aso, .ref ant].toArray below meth c H locs j11_accC j11_accS Q (F0 m 11 ls []) := by
          intro n11
          induction n11 with
          | zero => intros; rename_i hms _ _ _ _; exact absurd hms (Nat.not_lt_zero _)
          | succ n11 ih11 =>
            intro j11_accC j11_accS j11_l3 j11_l4 j11_nmu j11_caso j11_cant H locs ls hm11_1001 hm11_1002 r11_1003 r11_1004 hg11_1005 hg11_1006 hg11_1007 hi11_1008 hi11_1009 hi11_1010 hms11 hl hP hD hS
            refine lv_iload hx hb dX16_decide_11 (lv_at hl 4 rfl) ?_
            refine lv_aload_n hx hb dX16_decide_13 rfl (lv_at hl 0 rfl) ?_
            refine va_get (D := D) (ci := 16) (v := .int x_mm_15) (C := RX16) (T := TX16) (N := 78) hx hb (htX16 hn) (fun _ h => h) hown hK hP 0 rfl rfl 15 (by decide) (hn.get mw_1554 rfl) (fun _ h9 => h9) hf_mm_15 dX16_decide_14 ?_
            refine lv_icmp_ge (tgt := 108) hx hb dX16_decide_17 (by decide) (fun c17_1 => ?_) (fun c17_1 => ?_)
            · have t17_2 := FF.mk (i_le c17_1)
              refine lv_goto (tgt := 2) hx hb dX16_decide_108 (by decide) ?_
              exact ih2 j11_accC j11_accS j11_l3 j11_nmu j11_caso j11_cant H locs ls (show ((j11_accC : Nat) : Int) ≤ ((MC : Nat) : Int) by have q0 := FF.out hm11_1001; omega) (show ((j11_accS : Nat) : Int) ≤ ((MS : Nat) : Int) by have q0 := FF.out hm11_1002; omega) r11_1003 hg11_1005 hg11_1006 hg11_1007 (show ((j11_accC : Nat) : Int) = 0 by have q0 := FF.out (FF.mk (Int.natCast_nonneg j11_accC)); have q1 := FF.out hi11_1008; omega) (show ((j11_accS : Nat) : Int) = 0 by have q0 := FF.out (FF.mk (Int.natCast_nonneg j11_accS)); have q1 := FF.out hi11_1009; omega) (show (2 * ((j11_nmu : Nat) : Int) + j11_l3.toInt).toNat < n2 by have q0 := r3_3.1; have q1 := r11_1003.1; have q2 := FF.out hi11_1010; have q3 := hms2; omega) (lv_sub hl [0, 1, 2, 3] rfl) hP hD hS
            · have t17_2 := FF.mk (i_nle c17_1)
              have r17_3 : rg j11_l4 0 33999 := rg_ltA t17_2 r11_1004 h_x_mm_15 (by decide)
              have r17_4 : rg x_mm_15 1 34000 := rg_ltB t17_2 r11_1004 h_x_mm_15 (by decide)
              refine lv_iload_n hx hb dX16_decide_20 rfl (lv_at hl 3 rfl) ?_
              refine lv_if_ne (tgt := 108) hx hb dX16_decide_21 (by decide) (fun c21_1 => ?_) (fun c21_1 => ?_)
              · have t21_2 := FF.mk (i_ne c21_1)
                have r21_3 : rg j11_l3 1 2 := rg_neAl t21_2 r11_1003 (show rg (0 : Int32) 0 0 from rg_l (by decide)) (by decide)
                refine lv_goto (tgt := 2) hx hb dX16_decide_108 (by decide) ?_
                exact ih2 j11_accC j11_accS j11_l3 j11_nmu j11_caso j11_cant H locs ls (show ((j11_accC : Nat) : Int) ≤ ((MC : Nat) : Int) by have q0 := FF.out hm11_1001; omega) (show ((j11_accS : Nat) : Int) ≤ ((MS : Nat) : Int) by have q0 := FF.out hm11_1002; omega) (rg_w r21_3 (by decide)) hg11_1005 hg11_1006 hg11_1007 (show ((j11_accC : Nat) : Int) = 0 by have q0 := FF.out (FF.mk (Int.natCast_nonneg j11_accC)); have q1 := FF.out hi11_1008; omega) (show ((j11_accS : Nat) : Int) = 0 by have q0 := FF.out (FF.mk (Int.natCast_nonneg j11_accS)); have q1 := FF.out hi11_1009; omega) (show (2 * ((j11_nmu : Nat) : Int) + j11_l3.toInt).toNat < n2 by have q0 := r3_3.1; have q1 := r21_3.1; have q2 := FF.out hi11_1010; have q3 := hms2; omega) (lv_sub hl [0, 1, 2, 3] rfl) hP hD hS
              · have t21_2 := FF.mk (i_eq c21_1)
                have r21_3 : rg j11_l3 0 0 := rg_eqA t21_2 r11_1003 (show rg (0 : Int32) 0 0 from rg_l (by decide)) (by decide)
                have hk24_1 : FF (((j11_caso j11_l4.toNatClampNeg).toInt < 0 ∧ -2 ≤ (j11_caso j11_l4.toNatClampNeg).toInt) ∨ (j11_l4.toInt < (j11_caso j11_l4.toNatClampNeg).toInt ∧ (j11_caso j11_l4.toNatClampNeg).toInt < x_mm_15.toInt)) := FF.mk (FWA.at hg11_1005 (show 0 ≤ j11_l4.toInt by have q0 := r17_3.1; omega) (show j11_l4.toInt < x_mm_15.toInt by have q0 := FF.out t17_2; omega))
                have hk24_2 : FF (((j11_cant j11_l4.toNatClampNeg).toInt < 0 ∧ -2 ≤ (j11_cant j11_l4.toNatClampNeg).toInt) ∨ (j11_l4.toInt < (j11_cant j11_l4.toNatClampNeg).toInt ∧ (j11_cant j11_l4.toNatClampNeg).toInt < x_mm_15.toInt)) := FF.mk (FWA.at hg11_1006 (show 0 ≤ j11_l4.toInt by have q0 := r17_3.1; omega) (show j11_l4.toInt < x_mm_15.toInt by have q0 := FF.out t17_2; omega))
                refine lv_aload_n hx hb dX16_decide_24 rfl (lv_at hl 0 rfl) ?_
                refine lv_iload hx hb dX16_decide_25 (lv_at hl 4 rfl) ?_
                refine lv_aload_n hx hb dX16_decide_27 rfl (lv_at hl 1 rfl) ?_
                refine lv_iload hx hb dX16_decide_28 (lv_at hl 4 rfl) ?_
                have hi30_1 : vp_in j11_l4 TQ := (in_of (show 0 ≤ j11_l4.toInt ∧ j11_l4.toInt < ((TQ : Nat) : Int) by have q0 := r17_3.1; have q1 := FF.out hq2; have q2 := FF.out t17_2; omega))
                refine va_iald hx hb hK hP 4 1 rfl rfl hi30_1 dX16_decide_30 ?_
                refine lv_topi (fun z30_2 ez30_2 => ?_)
                refine lv_iconst (v := 1) hx hb dX16_decide_31 (by decide) ?_
                refine lv_aload_n hx hb dX16_decide_32 rfl (lv_at hl 1 rfl) ?_
                refine lv_aload_n hx hb dX16_decide_33 rfl (lv_at hl 2 rfl) ?_
                obtain ⟨m34_1, gm34_1⟩ : ∃ m9 : Nat, m9 + j11_accC = MC := ⟨MC - j11_accC, Nat.sub_add_cancel (Int.ofNat_le.mp (FF.out hm11_1001))⟩
                have em34_1 := FF.mk gm34_1
                obtain ⟨m34_2, gm34_2⟩ : ∃ m9 : Nat, m9 + j11_accS = MS := ⟨MS - j11_accS, Nat.sub_add_cancel (Int.ofNat_le.mp (FF.out hm11_1002))⟩
                have em34_2 := FF.mk gm34_2
                refine gt_P (pl := (pl)) (pl1 := fun _ => (pl)) (wr := []) [0, 1, 2, 3, 4, 5] [] (rt_V (As := [.int j11_l4, .int z30_2, .int 1, .ref aso, .ref ant]) (rest := []) (c_X16_decided l hst D ct m34_1 m34_2 (pl) mm j11_l4 z30_2 (1 : Int32) aso ant fs_mm ute x_mm_15 uye uno_ g_ute TN g_uye TL g_uno_ j11_caso TQ j11_cant (rg_w (show rg (1 : Int32) 1 1 from rg_l (by decide)) (by decide)) hlen_mm hf_mm_14 (rg_w r17_4 (by decide)) hf_mm_15 hf_mm_16 hf_mm_17 (show x_mm_15.toInt ≤ ((TN : Nat) : Int) by have q0 := FF.out hq0; omega) (show x_mm_15.toInt ≤ ((TL : Nat) : Int) by have q0 := FF.out hq1; omega) (show x_mm_15.toInt ≤ ((TQ : Nat) : Int) by have q0 := FF.out hq2; omega) (show 0 ≤ j11_l4.toInt by have q0 := r17_3.1; omega) (show j11_l4.toInt < x_mm_15.toInt by have q0 := FF.out t17_2; omega) (show -2 ≤ z30_2.toInt by have q0 := (congrArg Int32.toInt ez30_2); have q1 := r17_3.1; have q2 := FF.out hk24_1; omega) (show z30_2.toInt < x_mm_15.toInt by have q0 := (congrArg Int32.toInt ez30_2); have q1 := r17_3.1; have q2 := FF.out t17_2; have q3 := FF.out hk24_1; omega) hg0 hg11_1005 hg11_1006 _) (cb_of (n := 5) hn mw_2235 mw_13 mw_2232 mhX16_decided ⟨(Nat.le_of_ble_eq_true rfl), (Nat.le_of_ble_eq_true rfl)⟩) hx hb hml hown hn hK hSK hZ hS mw_2234 mw_s209 (ci := 16) (q0 := 0) rfl rfl rfl rfl hl.1 (Nat.le_of_ble_eq_true rfl) dX16_decide_34 ⟨(Nat.le_of_eq ((Nat.add_comm _ _).trans gm34_1)), (Nat.le_of_eq ((Nat.add_comm _ _).trans gm34_2))⟩) hP hD hS hA rfl rfl (by decide) (by decide) (by decide) (fun xq34_6 ux34_7 xfs34_8 H locs hpx34_9 hpexfs34_8 hP hD hS => ?_) (fun r34_3 u34_4 H locs hp34_5 hP hD hS => ?_)
                · exact hpx34_9.elim
                obtain ⟨kc34_310, kn34_311⟩ := u34_4
                obtain ⟨hp34_312, hp34_313, hp34_314⟩ := hp34_5
                replace hp34_312 : FF (((kc34_310 : Nat) : Int) = 0) := hp34_312
                replace hp34_313 : FF (((kn34_311 : Nat) : Int) = 0) := hp34_313
                replace hp34_314 : FF (r34_3.toInt = z30_2.toInt ∨ (0 ≤ z30_2.toInt ∧ ((r34_3.toInt < 0 ∧ -2 ≤ r34_3.toInt) ∨ (z30_2.toInt < r34_3.toInt ∧ r34_3.toInt < x_mm_15.toInt)))) := hp34_314
                obtain ⟨c34_315, ec34_315⟩ : ∃ x9 : Nat, x9 = j11_accC + kc34_310 := ⟨_, rfl⟩
                have ec34_315 := FF.mk ec34_315
                have mc34_315 : FF (c34_315 ≤ MC) := FF.mk (Int.ofNat_le.mp (show ((c34_315 : Nat) : Int) ≤ ((MC : Nat) : Int) by have q0 := FF.out hm11_1001; have q1 := FF.out hp34_312; have q2 := FF.out ec34_315; omega))
                obtain ⟨k34_316, ek34_316⟩ : ∃ x9 : Nat, x9 = j11_accS + kn34_311 := ⟨_, rfl⟩
                have ek34_316 := FF.mk ek34_316
                have mk34_316 : FF (k34_316 ≤ MS) := FF.mk (Int.ofNat_le.mp (show ((k34_316 : Nat) : Int) ≤ ((MS : Nat) : Int) by have q0 := FF.out hm11_1002; have q1 := FF.out hp34_313; have q2 := FF.out ek34_316; omega))
                have hP : va_P D vwCl ([(mm, .inr (16, fs_mm)), (ute, .inl (ct 5, TN, .inr (.inr (.inr (.inr g_ute))))), (uye, .inl (ct 1, TL, .inl g_uye)), (uno_, .inl (ct 1, TL, .inl g_uno_)), (aso, .inl (ct 1, TQ, .inl j11_caso)), (ant, .inl (ct 1, TQ, .inl j11_cant))] ++ (pl)) _ := hP
                have hD : va_D A ([(mm, .inr (16, fs_mm)), (ute, .inl (ct 5, TN, .inr (.inr (.inr (.inr g_ute))))), (uye, .inl (ct 1, TL, .inl g_uye)), (uno_, .inl (ct 1, TL, .inl g_uno_)), (aso, .inl (ct 1, TQ, .inl j11_caso)), (ant, .inl (ct 1, TQ, .inl j11_cant))] ++ (pl)) := hD
                refine W.widen (k := c34_315) (n := k34_316) (Nat.le_of_eq (FF.out ec34_315).symm) (Nat.le_of_eq (FF.out ek34_316).symm) (W.eq (g2 := F0 m 37 ls [.int r34_3]) rfl ?_)
                refine lv_istore (lv' := [(5, .int r34_3), (0, .ref mm), (1, .ref aso), (2, .ref ant), (3, .int j11_l3), (4, .int j11_l4)]) hx hb dX16_decide_37 hl (by decide) rfl (fun ls hl => ?_)
                refine lv_aload_n hx hb dX16_decide_39 rfl (lv_at hl 1 rfl) ?_
                refine lv_iload hx hb dX16_decide_40 (lv_at hl 5 rfl) ?_
                refine lv_aload_n hx hb dX16_decide_42 rfl (lv_at hl 3 rfl) ?_
                refine lv_iload hx hb dX16_decide_43 (lv_at hl 5 rfl) ?_
                have hi45_1 : vp_in j11_l4 TQ := (in_of (show 0 ≤ j11_l4.toInt ∧ j11_l4.toInt < ((TQ : Nat) : Int) by have q0 := r17_3.1; have q1 := FF.out hq2; have q2 := FF.out t17_2; omega))
                refine va_iald hx hb hK hP 5 1 rfl rfl hi45_1 dX16_decide_45 ?_
                refine lv_topi (fun z45_2 ez45_2 => ?_)
                refine lv_iconst (v := 0) hx hb dX16_decide_46 (by decide) ?_
                refine lv_aload_n hx hb dX16_decide_47 rfl (lv_at hl 2 rfl) ?_
                refine lv_aload_n hx hb dX16_decide_48 rfl (lv_at hl 3 rfl) ?_
                obtain ⟨m49_1, gm49_1⟩ : ∃ m9 : Nat, m9 + c34_315 = MC := ⟨MC - c34_315, Nat.sub_add_cancel (FF.out mc34_315)⟩
                have em49_1 := FF.mk gm49_1
                obtain ⟨m49_2, gm49_2⟩ : ∃ m9 : Nat, m9 + k34_316 = MS := ⟨MS - k34_316, Nat.sub_add_cancel (FF.out mk34_316)⟩
                have em49_2 := FF.mk gm49_2
                refine gt_P (pl := (pl)) (pl1 := fun _ => (pl)) (wr := []) [0, 1, 2, 3, 4, 5] [] (rt_V (As := [.int j11_l4, .int z45_2, .int 0, .ref aso, .ref ant]) (rest := []) (c_X16_decided l hst D ct m49_1 m49_2 (pl) mm j11_l4 z45_2 (0 : Int32) aso ant fs_mm ute x_mm_15 uye uno_ g_ute TN g_uye TL g_uno_ j11_caso TQ j11_cant (rg_w (show rg (0 : Int32) 0 0 from rg_l (by decide)) (by decide)) hlen_mm hf_mm_14 (rg_w r17_4 (by decide)) hf_mm_15 hf_mm_16 hf_mm_17 (show x_mm_15.toInt ≤ ((TN : Nat) : Int) by have q0 := FF.out hq0; omega) (show x_mm_15.toInt ≤ ((TL : Nat) : Int) by have q0 := FF.out hq1; omega) (show x_mm_15.toInt ≤ ((TQ : Nat) : Int) by have q0 := FF.out hq2; omega) (show 0 ≤ j11_l4.toInt by have q0 := r17_3.1; omega) (show j11_l4.toInt < x_mm_15.toInt by have q0 := FF.out t17_2; omega) (show -2 ≤ z45_2.toInt by have q0 := (congrArg Int32.toInt ez45_2); have q1 := r17_3.1; have q2 := FF.out hk24_2; omega) (show z45_2.toInt < x_mm_15.toInt by have q0 := (congrArg Int32.toInt ez45_2); have q1 := r17_3.1; have q2 := FF.out t17_2; have q3 := FF.out hk24_2; omega) hg0 hg11_1005 hg11_1006 _) (cb_of (n := 5) hn mw_2235 mw_13 mw_2232 mhX16_decided ⟨(Nat.le_of_ble_eq_true rfl), (Nat.le_of_ble_eq_true rfl)⟩) hx hb hml hown hn hK hSK hZ hS mw_2234 mw_s209 (ci := 16) (q0 := 0) rfl rfl rfl rfl hl.1 (Nat.le_of_ble_eq_true rfl) dX16_decide_49 ⟨(Nat.le_of_eq ((Nat.add_comm _ _).trans gm49_1)), (Nat.le_of_eq ((Nat.add_comm _ _).trans gm49_2))⟩) hP hD hS hA rfl rfl (by decide) (by decide) (by decide) (fun xq49_6 ux49_7 xfs49_8 H locs hpx49_9 hpexfs49_8 hP hD hS => ?_) (fun r49_3 u49_4 H locs hp49_5 hP hD hS => ?_)
                · exact hpx49_9.elim
                obtain ⟨kc49_310, kn49_311⟩ := u49_4
                obtain ⟨hp49_312, hp49_313, hp49_314⟩ := hp49_5
                replace hp49_312 : FF (((kc49_310 : Nat) : Int) = 0) := hp49_312
                replace hp49_313 : FF (((kn49_311 : Nat) : Int) = 0) := hp49_313
                replace hp49_314 : FF (r49_3.toInt = z45_2.toInt ∨ (0 ≤ z45_2.toInt ∧ ((r49_3.toInt < 0 ∧ -2 ≤ r49_3.toInt) ∨ (z45_2.toInt < r49_3.toInt ∧ r49_3.toInt < x_mm_15.toInt)))) := hp49_314
                obtain ⟨c49_315, ec49_315⟩ : ∃ x9 : Nat, x9 = c34_315 + kc49_310 := ⟨_, rfl⟩
                have ec49_315 := FF.mk ec49_315
                have mc49_315 : FF (c49_315 ≤ MC) := FF.mk (Int.ofNat_le.mp (show ((c49_315 : Nat) : Int) ≤ ((MC : Nat) : Int) by have q0 := FF.out mc34_315; have q1 := FF.out hp49_312; have q2 := FF.out ec49_315; omega))
                obtain ⟨k49_316, ek49_316⟩ : ∃ x9 : Nat, x9 = k34_316 + kn49_311 := ⟨_, rfl⟩
                have ek49_316 := FF.mk ek49_316
                have mk49_316 : FF (k49_316 ≤ MS) := FF.mk (Int.ofNat_le.mp (show ((k49_316 : Nat) : Int) ≤ ((MS : Nat) : Int) by have q0 := FF.out mk34_316; have q1 := FF.out hp49_313; have q2 := FF.out ek49_316; omega))
                have hP : va_P D vwCl ([(mm, .inr (16, fs_mm)), (ute, .inl (ct 5, TN, .inr (.inr (.inr (.inr g_ute))))), (uye, .inl (ct 1, TL, .inl g_uye)), (uno_, .inl (ct 1, TL, .inl g_uno_)), (aso, .inl (ct 1, TQ, .inl j11_caso)), (ant, .inl (ct 1, TQ, .inl j11_cant))] ++ (pl)) _ := hP
                have hD : va_D A ([(mm, .inr (16, fs_mm)), (ute, .inl (ct 5, TN, .inr (.inr (.inr (.inr g_ute))))), (uye, .inl (ct 1, TL, .inl g_uye)), (uno_, .inl (ct 1, TL, .inl g_uno_)), (aso, .inl (ct 1, TQ, .inl j11_caso)), (ant, .inl (ct 1, TQ, .inl j11_cant))] ++ (pl)) := hD
                refine W.widen (k := c49_315) (n := k49_316) (Nat.le_of_eq (FF.out ec49_315).symm) (Nat.le_of_eq (FF.out ek49_316).symm) (W.eq (g2 := F0 m 52 ls [.int r49_3]) rfl ?_)
                refine lv_istore (lv' := [(6, .int r49_3), (5, .int r34_3), (0, .ref mm), (1, .ref aso), (2, .ref ant), (3, .int j11_l3), (4, .int j11_l4)]) hx hb dX16_decide_52 hl (by decide) rfl (fun ls hl => ?_)
                refine lv_iload hx hb dX16_decide_54 (lv_at hl 1 rfl) ?_
                refine lv_aload_n hx hb dX16_decide_56 rfl (lv_at hl 3 rfl) ?_
                refine lv_iload hx hb dX16_decide_57 (lv_at hl 6 rfl) ?_
                have hi59_1 : vp_in j11_l4 TQ := (in_of (show 0 ≤ j11_l4.toInt ∧ j11_l4.toInt < ((TQ : Nat) : Int) by have q0 := r17_3.1; have q1 := FF.out hq2; have q2 := FF.out t17_2; omega))
                refine va_iald hx hb hK hP 4 1 rfl rfl hi59_1 dX16_decide_59 ?_
                refine lv_topi (fun z59_2 ez59_2 => ?_)
                obtain rfl : z30_2 = z59_2 := ez30_2.trans ez59_2.symm
                refine lv_icmp_ne (tgt := 72) hx hb dX16_decide_60 (by decide) (fun c60_1 => ?_) (fun c60_1 => ?_)
                · have t60_2 := FF.mk (i_ne c60_1)
                  refine lv_iconst (v := 1) hx hb dX16_decide_72 (by decide) ?_
                  refine lv_goto (tgt := 77) hx hb dX16_decide_73 (by decide) ?_
                  refine lv_istore_n (lv' := [(3, .int 1), (6, .int r49_3), (5, .int r34_3), (0, .ref mm), (1, .ref aso), (2, .ref ant), (4, .int j11_l4)]) hx hb dX16_decide_77 rfl hl (by decide) rfl (fun ls hl => ?_)
                  refine lv_iload hx hb dX16_decide_78 (lv_at hl 2 rfl) ?_
                  refine lv_aload_n hx hb dX16_decide_80 rfl (lv_at hl 4 rfl) ?_
                  refine lv_iload hx hb dX16_decide_81 (lv_at hl 6 rfl) ?_
                  have hi83_1 : vp_in j11_l4 TQ := (in_of (show 0 ≤ j11_l4.toInt ∧ j11_l4.toInt < ((TQ : Nat) : Int) by have q0 := r17_3.1; have q1 := (congrArg Int32.toInt ez30_2); have q2 := FF.out hq2; have q3 := FF.out hk24_1; have q4 := FF.out hp34_314; have q5 := FF.out t60_2; omega))
                  refine va_iald hx hb hK hP 4 1 rfl rfl hi83_1 dX16_decide_83 ?_
                  refine lv_topi (fun z83_2 ez83_2 => ?_)
                  obtain rfl : z30_2 = z83_2 := ez30_2.trans ez83_2.symm
                  refine lv_icmp_eq (tgt := 96) hx hb dX16_decide_84 (by decide) (fun c84_1 => ?_) (fun c84_1 => ?_)
                  · have t84_2 := FF.mk (i_eq c84_1)
                    refine lv_aload_n hx hb dX16_decide_96 rfl (lv_at hl 5 rfl) ?_
                    refine lv_iload hx hb dX16_decide_97 (lv_at hl 6 rfl) ?_
                    refine lv_iload hx hb dX16_decide_99 (lv_at hl 1 rfl) ?_
                    have hi101_1 : vp_in j11_l4 TQ := (in_of (show 0 ≤ j11_l4.toInt ∧ j11_l4.toInt < ((TQ : Nat) : Int) by have q0 := FF.out t60_2; have q1 := FF.out t84_2; omega))
                    refine va_iast hx hb hK hP hD hS 5 1 rfl rfl hi101_1 dX16_decide_101 (fun H locs hP hD hS => ?_)
                    have hP : va_P D vwCl ([(mm, .inr (16, fs_mm)), (ute, .inl (ct 5, TN, .inr (.inr (.inr (.inr g_ute))))), (uye, .inl (ct 1, TL, .inl g_uye)), (uno_, .inl (ct 1, TL, .inl g_uno_)), (aso, .inl (ct 1, TQ, .inl j11_caso)), (ant, .inl (ct 1, TQ, .inl (upd j11_cant j11_l4.toNatClampNeg r49_3)))] ++ (pl)) _ := hP
                    have hD : va_D A ([(mm, .inr (16, fs_mm)), (ute, .inl (ct 5, TN, .inr (.inr (.inr (.inr g_ute))))), (uye, .inl (ct 1, TL, .inl g_uye)), (uno_, .inl (ct 1, TL, .inl g_uno_)), (aso, .inl (ct 1, TQ, .inl j11_caso)), (ant, .inl (ct 1, TQ, .inl (upd j11_cant j11_l4.toNatClampNeg r49_3)))] ++ (pl)) := hD
                    obtain ⟨f101_2, ef101_2⟩ : ∃ z, z = (upd j11_cant j11_l4.toNatClampNeg r49_3) := ⟨_, rfl⟩
                    rw [← ef101_2] at hP hD
                    have u102_1w := FWA.at hg11_1006 (show 0 ≤ j11_l4.toInt by have q0 := r17_3.1; omega) (show j11_l4.toInt < x_mm_15.toInt by have q0 := FF.out t17_2; omega)
                    have hk102_2 : FF (-2 ≤ (j11_cant j11_l4.toNatClampNeg).toInt ∧ (j11_cant j11_l4.toNatClampNeg).toInt < x_mm_15.toInt) := FF.mk (by have h9 := (show 0 ≤ j11_l4.toInt by have q0 := r17_3.1; omega); have h10 := (show j11_l4.toInt < x_mm_15.toInt by have q0 := FF.out t17_2; omega); unfold FW at u102_1w; omega)
                    obtain ⟨u102_1m, u102_1, u102_1l, u102_1t⟩ := RKB.putN hg11_1007 ef101_2 (show 0 ≤ j11_l4.toInt by have q0 := r17_3.1; omega) (show j11_l4.toInt < x_mm_15.toInt by have q0 := FF.out t17_2; omega) (show r49_3.toInt = (j11_cant j11_l4.toNatClampNeg).toInt ∨ (0 ≤ (j11_cant j11_l4.toNatClampNeg).toInt ∧ (r49_3.toInt < 0 ∨ (j11_cant j11_l4.toNatClampNeg).toInt < r49_3.toInt)) by have q0 := FF.out t60_2; have q1 := FF.out t84_2; omega) (show (j11_cant j11_l4.toNatClampNeg).toInt < x_mm_15.toInt by have q0 := FF.out hk102_2; omega)
                    have hk102_3 : FF (((u102_1m : Nat) : Int) ≤ ((j11_nmu : Nat) : Int)) := FF.mk (Int.ofNat_le.mpr u102_1l)
                    have hk102_4 : FF (((u102_1m : Nat) : Int) < ((j11_nmu : Nat) : Int)) := FF.mk (Int.ofNat_lt.mpr (u102_1t (show r49_3.toInt ≠ (j11_cant j11_l4.toNatClampNeg).toInt by have q0 := FF.out t60_2; have q1 := FF.out t84_2; omega)))
                    have hf102_5 : FWA f101_2 x_mm_15.toInt := FWA.put hg11_1006 ef101_2 (show 0 ≤ j11_l4.toInt by have q0 := r17_3.1; omega) (show (r49_3.toInt < 0 ∧ -2 ≤ r49_3.toInt) ∨ (j11_l4.toInt < r49_3.toInt ∧ r49_3.toInt < x_mm_15.toInt) by have q0 := FF.out t60_2; have q1 := FF.out t84_2; omega)
                    obtain ⟨x102_6, ex102_6⟩ : ∃ z : Int32, z = j11_l4 + 1 := ⟨_, rfl⟩
                    have r102_7 : rg x102_6 1 34000 := rg_add ex102_6 r17_3 (show rg (1 : Int32) 1 1 from rg_l (by decide)) (by decide)
                    refine lv_iinc (v := x102_6) (lv' := [(4, .int x102_6), (3, .int 1), (6, .int r49_3), (5, .int r34_3), (0, .ref mm), (1, .ref aso), (2, .ref ant)]) hx hb dX16_decide_102 hl (k := 6) rfl (by rw [ex102_6]; rfl) (by decide) rfl (fun ls hl => ?_)
                    refine lv_goto (tgt := 11) hx hb dX16_decide_105 (by decide) ?_
                    exact ih11 c49_315 k49_316 (1 : Int32) x102_6 u102_1m j11_caso f101_2 H locs ls (show ((c49_315 : Nat) : Int) ≤ ((MC : Nat) : Int) by have q0 := FF.out mc49_315; omega) (show ((k49_316 : Nat) : Int) ≤ ((MS : Nat) : Int) by have q0 := FF.out mk49_316; omega) (rg_w (show rg (1 : Int32) 1 1 from rg_l (by decide)) (by decide)) (rg_w r102_7 (by decide)) hg11_1005 hf102_5 u102_1 (show ((c49_315 : Nat) : Int) = 0 by have q0 := FF.out hi11_1008; have q1 := FF.out hp34_312; have q2 := FF.out ec34_315; have q3 := FF.out hp49_312; have q4 := FF.out ec49_315; omega) (show ((k49_316 : Nat) : Int) = 0 by have q0 := FF.out hi11_1009; have q1 := FF.out hp34_313; have q2 := FF.out ek34_316; have q3 := FF.out hp49_313; have q4 := FF.out ek49_316; omega) (show ((u102_1m : Nat) : Int) + (1 : Int32).toInt ≤ ((j2_nmu : Nat) : Int) by have q0 := r21_3.1; have q1 := FF.out hi11_1010; have q2 := FF.out hk102_4; have q3 := (show (1 : Int32).toInt = 1 from by decide); omega) (show ((2147483647 : Int) - x102_6.toInt).toNat < n11 by have q0 := FF.out t60_2; have q1 := FF.out t84_2; have q2 := hms11; omega) (lv_sub hl [4, 5, 6, 1, 0] rfl) hP hD hS
                  · have t84_2 := FF.mk (i_ne c84_1)
                    refine lv_aload_n hx hb dX16_decide_87 rfl (lv_at hl 4 rfl) ?_
                    refine lv_iload hx hb dX16_decide_88 (lv_at hl 6 rfl) ?_
                    refine lv_iload hx hb dX16_decide_90 (lv_at hl 2 rfl) ?_
                    have hi92_1 : vp_in j11_l4 TQ := (in_of (show 0 ≤ j11_l4.toInt ∧ j11_l4.toInt < ((TQ : Nat) : Int) by have q0 := r17_3.1; have q1 := (congrArg Int32.toInt ez30_2); have q2 := FF.out hq2; have q3 := FF.out hk24_1; have q4 := FF.out hp34_314; have q5 := FF.out t60_2; omega))
                    refine va_iast hx hb hK hP hD hS 4 1 rfl rfl hi92_1 dX16_decide_92 (fun H locs hP hD hS => ?_)
                    have hP : va_P D vwCl ([(mm, .inr (16, fs_mm)), (ute, .inl (ct 5, TN, .inr (.inr (.inr (.inr g_ute))))), (uye, .inl (ct 1, TL, .inl g_uye)), (uno_, .inl (ct 1, TL, .inl g_uno_)), (aso, .inl (ct 1, TQ, .inl (upd j11_caso j11_l4.toNatClampNeg r34_3))), (ant, .inl (ct 1, TQ, .inl j11_cant))] ++ (pl)) _ := hP
                    have hD : va_D A ([(mm, .inr (16, fs_mm)), (ute, .inl (ct 5, TN, .inr (.inr (.inr (.inr g_ute))))), (uye, .inl (ct 1, TL, .inl g_uye)), (uno_, .inl (ct 1, TL, .inl g_uno_)), (aso, .inl (ct 1, TQ, .inl (upd j11_caso j11_l4.toNatClampNeg r34_3))), (ant, .inl (ct 1, TQ, .inl j11_cant))] ++ (pl)) := hD
                    obtain ⟨f92_2, ef92_2⟩ : ∃ z, z = (upd j11_caso j11_l4.toNatClampNeg r34_3) := ⟨_, rfl⟩
                    rw [← ef92_2] at hP hD
                    have u93_1w := FWA.at hg11_1005 (show 0 ≤ j11_l4.toInt by have q0 := r17_3.1; omega) (show j11_l4.toInt < x_mm_15.toInt by have q0 := FF.out t17_2; omega)
                    have hk93_2 : FF (-2 ≤ (j11_caso j11_l4.toNatClampNeg).toInt ∧ (j11_caso j11_l4.toNatClampNeg).toInt < x_mm_15.toInt) := FF.mk (by have h9 := (show 0 ≤ j11_l4.toInt by have q0 := r17_3.1; omega); have h10 := (show j11_l4.toInt < x_mm_15.toInt by have q0 := FF.out t17_2; omega); unfold FW at u93_1w; omega)
                    obtain ⟨u93_1m, u93_1, u93_1l, u93_1t⟩ := RKB.putS hg11_1007 ef92_2 (show 0 ≤ j11_l4.toInt by have q0 := r17_3.1; omega) (show j11_l4.toInt < x_mm_15.toInt by have q0 := FF.out t17_2; omega) (show r34_3.toInt = (j11_caso j11_l4.toNatClampNeg).toInt ∨ (0 ≤ (j11_caso j11_l4.toNatClampNeg).toInt ∧ (r34_3.toInt < 0 ∨ (j11_caso j11_l4.toNatClampNeg).toInt < r34_3.toInt)) by have q0 := (congrArg Int32.toInt ez30_2); have q1 := FF.out hp34_314; have q2 := FF.out t60_2; omega) (show (j11_caso j11_l4.toNatClampNeg).toInt < x_mm_15.toInt by have q0 := FF.out hk93_2; omega)
                    have hk93_3 : FF (((u93_1m : Nat) : Int) ≤ ((j11_nmu : Nat) : Int)) := FF.mk (Int.ofNat_le.mpr u93_1l)
                    have hk93_4 : FF (((u93_1m : Nat) : Int) < ((j11_nmu : Nat) : Int)) := FF.mk (Int.ofNat_lt.mpr (u93_1t (show r34_3.toInt ≠ (j11_caso j11_l4.toNatClampNeg).toInt by have q0 := (congrArg Int32.toInt ez30_2); have q1 := FF.out t60_2; omega)))
                    have hf93_5 : FWA f92_2 x_mm_15.toInt := FWA.put hg11_1005 ef92_2 (show 0 ≤ j11_l4.toInt by have q0 := r17_3.1; omega) (show (r34_3.toInt < 0 ∧ -2 ≤ r34_3.toInt) ∨ (j11_l4.toInt < r34_3.toInt ∧ r34_3.toInt < x_mm_15.toInt) by have q0 := (congrArg Int32.toInt ez30_2); have q1 := FF.out hk24_1; have q2 := FF.out hp34_314; have q3 := FF.out t60_2; omega)
                    refine lv_goto (tgt := 102) hx hb dX16_decide_93 (by decide) ?_
                    obtain ⟨x102_1, ex102_1⟩ : ∃ z : Int32, z = j11_l4 + 1 := ⟨_, rfl⟩
                    have r102_2 : rg x102_1 1 34000 := rg_add ex102_1 r17_3 (show rg (1 : Int32) 1 1 from rg_l (by decide)) (by decide)
                    refine lv_iinc (v := x102_1) (lv' := [(4, .int x102_1), (3, .int 1), (6, .int r49_3), (5, .int r34_3), (0, .ref mm), (1, .ref aso), (2, .ref ant)]) hx hb dX16_decide_102 hl (k := 6) rfl (by rw [ex102_1]; rfl) (by decide) rfl (fun ls hl => ?_)
                    refine lv_goto (tgt := 11) hx hb dX16_decide_105 (by decide) ?_
                    exact ih11 c49_315 k49_316 (1 : Int32) x102_1 u93_1m f92_2 j11_cant H locs ls (show ((c49_315 : Nat) : Int) ≤ ((MC : Nat) : Int) by have q0 := FF.out mc49_315; omega) (show ((k49_316 : Nat) : Int) ≤ ((MS : Nat) : Int) by have q0 := FF.out mk49_316; omega) (rg_w (show rg (1 : Int32) 1 1 from rg_l (by decide)) (by decide)) (rg_w r102_2 (by decide)) hf93_5 hg11_1006 u93_1 (show ((c49_315 : Nat) : Int) = 0 by have q0 := FF.out hi11_1008; have q1 := FF.out hp34_312; have q2 := FF.out ec34_315; have q3 := FF.out hp49_312; have q4 := FF.out ec49_315; omega) (show ((k49_316 : Nat) : Int) = 0 by have q0 := FF.out hi11_1009; have q1 := FF.out hp34_313; have q2 := FF.out ek34_316; have q3 := FF.out hp49_313; have q4 := FF.out ek49_316; omega) (show ((u93_1m : Nat) : Int) + (1 : Int32).toInt ≤ ((j2_nmu : Nat) : Int) by have q0 := r21_3.1; have q1 := FF.out hi11_1010; have q2 := FF.out hk93_4; have q3 := (show (1 : Int32).toInt = 1 from by decide); omega) (show ((2147483647 : Int) - x102_1.toInt).toNat < n11 by have q0 := r17_3.2; have q1 := (eq_add ex102_1 r17_3 (show rg (1 : Int32) 1 1 from rg_l (by decide)) (by decide)); have q2 := (show (1 : Int32).toInt = 1 from by decide); have q3 := hms11; omega) (lv_sub hl [4, 5, 6, 1, 0] rfl) hP hD hS
                · have t60_2 := FF.mk (i_eq c60_1)
                  refine lv_iload hx hb dX16_decide_63 (lv_at hl 0 rfl) ?_
                  refine lv_aload_n hx hb dX16_decide_65 rfl (lv_at hl 4 rfl) ?_
                  refine lv_iload hx hb dX16_decide_66 (lv_at hl 6 rfl) ?_
                  have hi68_1 : vp_in j11_l4 TQ := (in_of (show 0 ≤ j11_l4.toInt ∧ j11_l4.toInt < ((TQ : Nat) : Int) by have q0 := r17_3.1; have q1 := FF.out hq2; have q2 := FF.out t17_2; omega))
                  refine va_iald hx hb hK hP 5 1 rfl rfl hi68_1 dX16_decide_68 ?_
                  refine lv_topi (fun z68_2 ez68_2 => ?_)
                  obtain rfl : z45_2 = z68_2 := ez45_2.trans ez68_2.symm
                  refine lv_icmp_eq (tgt := 76) hx hb dX16_decide_69 (by decide) (fun c69_1 => ?_) (fun c69_1 => ?_)
                  · have t69_2 := FF.mk (i_eq c69_1)
                    refine lv_iconst (v := 0) hx hb dX16_decide_76 (by decide) ?_
                    refine lv_istore_n (lv' := [(3, .int 0), (6, .int r49_3), (5, .int r34_3), (0, .ref mm), (1, .ref aso), (2, .ref ant), (4, .int j11_l4)]) hx hb dX16_decide_77 rfl hl (by decide) rfl (fun ls hl => ?_)
                    refine lv_iload hx hb dX16_decide_78 (lv_at hl 2 rfl) ?_
                    refine lv_aload_n hx hb dX16_decide_80 rfl (lv_at hl 4 rfl) ?_
                    refine lv_iload hx hb dX16_decide_81 (lv_at hl 6 rfl) ?_
                    have hi83_1 : vp_in j11_l4 TQ := (in_of (show 0 ≤ j11_l4.toInt ∧ j11_l4.toInt < ((TQ : Nat) : Int) by have q0 := r17_3.1; have q1 := FF.out hq2; have q2 := FF.out t17_2; omega))
                    refine va_iald hx hb hK hP 4 1 rfl rfl hi83_1 dX16_decide_83 ?_
                    refine lv_topi (fun z83_2 ez83_2 => ?_)
                    obtain rfl : z30_2 = z83_2 := ez30_2.trans ez83_2.symm
                    refine lv_icmp_eq (tgt := 96) hx hb dX16_decide_84 (by decide) (fun c84_1 => ?_) (fun c84_1 => ?_)
                    · have t84_2 := FF.mk (i_eq c84_1)
                      refine lv_aload_n hx hb dX16_decide_96 rfl (lv_at hl 5 rfl) ?_
                      refine lv_iload hx hb dX16_decide_97 (lv_at hl 6 rfl) ?_
                      refine lv_iload hx hb dX16_decide_99 (lv_at hl 1 rfl) ?_
                      have hi101_1 : vp_in j11_l4 TQ := (in_of (show 0 ≤ j11_l4.toInt ∧ j11_l4.toInt < ((TQ : Nat) : Int) by have q0 := r17_3.1; have q1 := FF.out hq2; have q2 := FF.out t17_2; omega))
                      refine va_iast hx hb hK hP hD hS 5 1 rfl rfl hi101_1 dX16_decide_101 (fun H locs hP hD hS => ?_)
                      have hP : va_P D vwCl ([(mm, .inr (16, fs_mm)), (ute, .inl (ct 5, TN, .inr (.inr (.inr (.inr g_ute))))), (uye, .inl (ct 1, TL, .inl g_uye)), (uno_, .inl (ct 1, TL, .inl g_uno_)), (aso, .inl (ct 1, TQ, .inl j11_caso)), (ant, .inl (ct 1, TQ, .inl (upd j11_cant j11_l4.toNatClampNeg r49_3)))] ++ (pl)) _ := hP
                      have hD : va_D A ([(mm, .inr (16, fs_mm)), (ute, .inl (ct 5, TN, .inr (.inr (.inr (.inr g_ute))))), (uye, .inl (ct 1, TL, .inl g_uye)), (uno_, .inl (ct 1, TL, .inl g_uno_)), (aso, .inl (ct 1, TQ, .inl j11_caso)), (ant, .inl (ct 1, TQ, .inl (upd j11_cant j11_l4.toNatClampNeg r49_3)))] ++ (pl)) := hD
                      obtain ⟨f101_2, ef101_2⟩ : ∃ z, z = (upd j11_cant j11_l4.toNatClampNeg r49_3) := ⟨_, rfl⟩
                      rw [← ef101_2] at hP hD
                      have u102_1w := FWA.at hg11_1006 (show 0 ≤ j11_l4.toInt by have q0 := r17_3.1; omega) (show j11_l4.toInt < x_mm_15.toInt by have q0 := FF.out t17_2; omega)
                      have hk102_2 : FF (-2 ≤ (j11_cant j11_l4.toNatClampNeg).toInt ∧ (j11_cant j11_l4.toNatClampNeg).toInt < x_mm_15.toInt) := FF.mk (by have h9 := (show 0 ≤ j11_l4.toInt by have q0 := r17_3.1; omega); have h10 := (show j11_l4.toInt < x_mm_15.toInt by have q0 := FF.out t17_2; omega); unfold FW at u102_1w; omega)
                      obtain ⟨u102_1m, u102_1, u102_1l, u102_1t⟩ := RKB.putN hg11_1007 ef101_2 (show 0 ≤ j11_l4.toInt by have q0 := r17_3.1; omega) (show j11_l4.toInt < x_mm_15.toInt by have q0 := FF.out t17_2; omega) (show r49_3.toInt = (j11_cant j11_l4.toNatClampNeg).toInt ∨ (0 ≤ (j11_cant j11_l4.toNatClampNeg).toInt ∧ (r49_3.toInt < 0 ∨ (j11_cant j11_l4.toNatClampNeg).toInt < r49_3.toInt)) by have q0 := (congrArg Int32.toInt ez45_2); have q1 := FF.out t69_2; omega) (show (j11_cant j11_l4.toNatClampNeg).toInt < x_mm_15.toInt by have q0 := FF.out hk102_2; omega)
                      have hk102_3 : FF (((u102_1m : Nat) : Int) ≤ ((j11_nmu : Nat) : Int)) := FF.mk (Int.ofNat_le.mpr u102_1l)
                      have hf102_4 : FWA f101_2 x_mm_15.toInt := FWA.put hg11_1006 ef101_2 (show 0 ≤ j11_l4.toInt by have q0 := r17_3.1; omega) (show (r49_3.toInt < 0 ∧ -2 ≤ r49_3.toInt) ∨ (j11_l4.toInt < r49_3.toInt ∧ r49_3.toInt < x_mm_15.toInt) by have q0 := (congrArg Int32.toInt ez45_2); have q1 := FF.out hk24_2; have q2 := FF.out t69_2; have q3 := FF.out hk102_2; omega)
                      obtain ⟨x102_5, ex102_5⟩ : ∃ z : Int32, z = j11_l4 + 1 := ⟨_, rfl⟩
                      have r102_6 : rg x102_5 1 34000 := rg_add ex102_5 r17_3 (show rg (1 : Int32) 1 1 from rg_l (by decide)) (by decide)
                      refine lv_iinc (v := x102_5) (lv' := [(4, .int x102_5), (3, .int 0), (6, .int r49_3), (5, .int r34_3), (0, .ref mm), (1, .ref aso), (2, .ref ant)]) hx hb dX16_decide_102 hl (k := 6) rfl (by rw [ex102_5]; rfl) (by decide) rfl (fun ls hl => ?_)
                      refine lv_goto (tgt := 11) hx hb dX16_decide_105 (by decide) ?_
                      exact ih11 c49_315 k49_316 (0 : Int32) x102_5 u102_1m j11_caso f101_2 H locs ls (show ((c49_315 : Nat) : Int) ≤ ((MC : Nat) : Int) by have q0 := FF.out mc49_315; omega) (show ((k49_316 : Nat) : Int) ≤ ((MS : Nat) : Int) by have q0 := FF.out mk49_316; omega) (rg_w (show rg (0 : Int32) 0 0 from rg_l (by decide)) (by decide)) (rg_w r102_6 (by decide)) hg11_1005 hf102_4 u102_1 (show ((c49_315 : Nat) : Int) = 0 by have q0 := FF.out hi11_1008; have q1 := FF.out hp34_312; have q2 := FF.out ec34_315; have q3 := FF.out hp49_312; have q4 := FF.out ec49_315; omega) (show ((k49_316 : Nat) : Int) = 0 by have q0 := FF.out hi11_1009; have q1 := FF.out hp34_313; have q2 := FF.out ek34_316; have q3 := FF.out hp49_313; have q4 := FF.out ek49_316; omega) (show ((u102_1m : Nat) : Int) + (0 : Int32).toInt ≤ ((j2_nmu : Nat) : Int) by have q0 := r21_3.1; have q1 := FF.out hi11_1010; have q2 := FF.out hk102_3; have q3 := (show (0 : Int32).toInt = 0 from by decide); omega) (show ((2147483647 : Int) - x102_5.toInt).toNat < n11 by have q0 := r17_3.2; have q1 := (eq_add ex102_5 r17_3 (show rg (1 : Int32) 1 1 from rg_l (by decide)) (by decide)); have q2 := (show (1 : Int32).toInt = 1 from by decide); have q3 := hms11; omega) (lv_sub hl [4, 5, 6, 1, 0] rfl) hP hD hS
                    · have t84_2 := FF.mk (i_ne c84_1)
                      refine lv_aload_n hx hb dX16_decide_87 rfl (lv_at hl 4 rfl) ?_
                      refine lv_iload hx hb dX16_decide_88 (lv_at hl 6 rfl) ?_
                      refine lv_iload hx hb dX16_decide_90 (lv_at hl 2 rfl) ?_
                      have hi92_1 : vp_in j11_l4 TQ := (in_of (show 0 ≤ j11_l4.toInt ∧ j11_l4.toInt < ((TQ : Nat) : Int) by have q0 := FF.out t60_2; have q1 := FF.out t84_2; omega))
                      refine va_iast hx hb hK hP hD hS 4 1 rfl rfl hi92_1 dX16_decide_92 (fun H locs hP hD hS => ?_)
                      have hP : va_P D vwCl ([(mm, .inr (16, fs_mm)), (ute, .inl (ct 5, TN, .inr (.inr (.inr (.inr g_ute))))), (uye, .inl (ct 1, TL, .inl g_uye)), (uno_, .inl (ct 1, TL, .inl g_uno_)), (aso, .inl (ct 1, TQ, .inl (upd j11_caso j11_l4.toNatClampNeg r34_3))), (ant, .inl (ct 1, TQ, .inl j11_cant))] ++ (pl)) _ := hP
                      have hD : va_D A ([(mm, .inr (16, fs_mm)), (ute, .inl (ct 5, TN, .inr (.inr (.inr (.inr g_ute))))), (uye, .inl (ct 1, TL, .inl g_uye)), (uno_, .inl (ct 1, TL, .inl g_uno_)), (aso, .inl (ct 1, TQ, .inl (upd j11_caso j11_l4.toNatClampNeg r34_3))), (ant, .inl (ct 1, TQ, .inl j11_cant))] ++ (pl)) := hD
                      obtain ⟨f92_2, ef92_2⟩ : ∃ z, z = (upd j11_caso j11_l4.toNatClampNeg r34_3) := ⟨_, rfl⟩
                      rw [← ef92_2] at hP hD
                      have u93_1w := FWA.at hg11_1005 (show 0 ≤ j11_l4.toInt by have q0 := r17_3.1; omega) (show j11_l4.toInt < x_mm_15.toInt by have q0 := FF.out t17_2; omega)
                      have hk93_2 : FF (-2 ≤ (j11_caso j11_l4.toNatClampNeg).toInt ∧ (j11_caso j11_l4.toNatClampNeg).toInt < x_mm_15.toInt) := FF.mk (by have h9 := (show 0 ≤ j11_l4.toInt by have q0 := r17_3.1; omega); have h10 := (show j11_l4.toInt < x_mm_15.toInt by have q0 := FF.out t17_2; omega); unfold FW at u93_1w; omega)
                      obtain ⟨u93_1m, u93_1, u93_1l, u93_1t⟩ := RKB.putS hg11_1007 ef92_2 (show 0 ≤ j11_l4.toInt by have q0 := r17_3.1; omega) (show j11_l4.toInt < x_mm_15.toInt by have q0 := FF.out t17_2; omega) (show r34_3.toInt = (j11_caso j11_l4.toNatClampNeg).toInt ∨ (0 ≤ (j11_caso j11_l4.toNatClampNeg).toInt ∧ (r34_3.toInt < 0 ∨ (j11_caso j11_l4.toNatClampNeg).toInt < r34_3.toInt)) by have q0 := FF.out t60_2; have q1 := FF.out t84_2; omega) (show (j11_caso j11_l4.toNatClampNeg).toInt < x_mm_15.toInt by have q0 := FF.out hk93_2; omega)
                      have hk93_3 : FF (((u93_1m : Nat) : Int) ≤ ((j11_nmu : Nat) : Int)) := FF.mk (Int.ofNat_le.mpr u93_1l)
                      have hk93_4 : FF (((u93_1m : Nat) : Int) < ((j11_nmu : Nat) : Int)) := FF.mk (Int.ofNat_lt.mpr (u93_1t (show r34_3.toInt ≠ (j11_caso j11_l4.toNatClampNeg).toInt by have q0 := FF.out t60_2; have q1 := FF.out t84_2; omega)))
                      have hf93_5 : FWA f92_2 x_mm_15.toInt := FWA.put hg11_1005 ef92_2 (show 0 ≤ j11_l4.toInt by have q0 := r17_3.1; omega) (show (r34_3.toInt < 0 ∧ -2 ≤ r34_3.toInt) ∨ (j11_l4.toInt < r34_3.toInt ∧ r34_3.toInt < x_mm_15.toInt) by have q0 := FF.out t60_2; have q1 := FF.out t84_2; omega)
                      refine lv_goto (tgt := 102) hx hb dX16_decide_93 (by decide) ?_
                      obtain ⟨x102_1, ex102_1⟩ : ∃ z : Int32, z = j11_l4 + 1 := ⟨_, rfl⟩
                      have r102_2 : rg x102_1 1 34000 := rg_add ex102_1 r17_3 (show rg (1 : Int32) 1 1 from rg_l (by decide)) (by decide)
                      refine lv_iinc (v := x102_1) (lv' := [(4, .int x102_1), (3, .int 0), (6, .int r49_3), (5, .int r34_3), (0, .ref mm), (1, .ref aso), (2, .ref ant)]) hx hb dX16_decide_102 hl (k := 6) rfl (by rw [ex102_1]; rfl) (by decide) rfl (fun ls hl => ?_)
                      refine lv_goto (tgt := 11) hx hb dX16_decide_105 (by decide) ?_
                      exact ih11 c49_315 k49_316 (0 : Int32) x102_1 u93_1m f92_2 j11_cant H locs ls (show ((c49_315 : Nat) : Int) ≤ ((MC : Nat) : Int) by have q0 := FF.out mc49_315; omega) (show ((k49_316 : Nat) : Int) ≤ ((MS : Nat) : Int) by have q0 := FF.out mk49_316; omega) (rg_w (show rg (0 : Int32) 0 0 from rg_l (by decide)) (by decide)) (rg_w r102_2 (by decide)) hf93_5 hg11_1006 u93_1 (show ((c49_315 : Nat) : Int) = 0 by have q0 := FF.out hi11_1008; have q1 := FF.out hp34_312; have q2 := FF.out ec34_315; have q3 := FF.out hp49_312; have q4 := FF.out ec49_315; omega) (show ((k49_316 : Nat) : Int) = 0 by have q0 := FF.out hi11_1009; have q1 := FF.out hp34_313; have q2 := FF.out ek34_316; have q3 := FF.out hp49_313; have q4 := FF.out ek49_316; omega) (show ((u93_1m : Nat) : Int) + (0 : Int32).toInt ≤ ((j2_nmu : Nat) : Int) by have q0 := r21_3.1; have q1 := FF.out hi11_1010; have q2 := FF.out hk93_4; have q3 := (show (0 : Int32).toInt = 0 from by decide); omega) (show ((2147483647 : Int) - x102_1.toInt).toNat < n11 by have q0 := FF.out t60_2; have q1 := FF.out t84_2; have q2 := hms11; omega) (lv_sub hl [4, 5, 6, 1, 0] rfl) hP hD hS
                  · have t69_2 := FF.mk (i_ne c69_1)
                    refine lv_iconst (v := 1) hx hb dX16_decide_72 (by decide) ?_
                    refine lv_goto (tgt := 77) hx hb dX16_decide_73 (by decide) ?_
                    refine lv_istore_n (lv' := [(3, .int 1), (6, .int r49_3), (5, .int r34_3), (0, .ref mm), (1, .ref aso), (2, .ref ant), (4, .int j11_l4)]) hx hb dX16_decide_77 rfl hl (by decide) rfl (fun ls hl => ?_)
                    refine lv_iload hx hb dX16_decide_78 (lv_at hl 2 rfl) ?_
                    refine lv_aload_n hx hb dX16_decide_80 rfl (lv_at hl 4 rfl) ?_
                    refine lv_iload hx hb dX16_decide_81 (lv_at hl 6 rfl) ?_
                    have hi83_1 : vp_in j11_l4 TQ := (in_of (show 0 ≤ j11_l4.toInt ∧ j11_l4.toInt < ((TQ : Nat) : Int) by have q0 := r17_3.1; have q1 := (congrArg Int32.toInt ez45_2); have q2 := FF.out hq2; have q3 := FF.out hk24_2; have q4 := FF.out hp49_314; have q5 := FF.out t69_2; omega))
                    refine va_iald hx hb hK hP 4 1 rfl rfl hi83_1 dX16_decide_83 ?_
                    refine lv_topi (fun z83_2 ez83_2 => ?_)
                    obtain rfl : z30_2 = z83_2 := ez30_2.trans ez83_2.symm
                    refine lv_icmp_eq (tgt := 96) hx hb dX16_decide_84 (by decide) (fun c84_1 => ?_) (fun c84_1 => ?_)
                    · have t84_2 := FF.mk (i_eq c84_1)
                      refine lv_aload_n hx hb dX16_decide_96 rfl (lv_at hl 5 rfl) ?_
                      refine lv_iload hx hb dX16_decide_97 (lv_at hl 6 rfl) ?_
                      refine lv_iload hx hb dX16_decide_99 (lv_at hl 1 rfl) ?_
                      have hi101_1 : vp_in j11_l4 TQ := (in_of (show 0 ≤ j11_l4.toInt ∧ j11_l4.toInt < ((TQ : Nat) : Int) by have q0 := r17_3.1; have q1 := (congrArg Int32.toInt ez45_2); have q2 := FF.out hq2; have q3 := FF.out hk24_2; have q4 := FF.out hp49_314; have q5 := FF.out t69_2; omega))
                      refine va_iast hx hb hK hP hD hS 5 1 rfl rfl hi101_1 dX16_decide_101 (fun H locs hP hD hS => ?_)
                      have hP : va_P D vwCl ([(mm, .inr (16, fs_mm)), (ute, .inl (ct 5, TN, .inr (.inr (.inr (.inr g_ute))))), (uye, .inl (ct 1, TL, .inl g_uye)), (uno_, .inl (ct 1, TL, .inl g_uno_)), (aso, .inl (ct 1, TQ, .inl j11_caso)), (ant, .inl (ct 1, TQ, .inl (upd j11_cant j11_l4.toNatClampNeg r49_3)))] ++ (pl)) _ := hP
                      have hD : va_D A ([(mm, .inr (16, fs_mm)), (ute, .inl (ct 5, TN, .inr (.inr (.inr (.inr g_ute))))), (uye, .inl (ct 1, TL, .inl g_uye)), (uno_, .inl (ct 1, TL, .inl g_uno_)), (aso, .inl (ct 1, TQ, .inl j11_caso)), (ant, .inl (ct 1, TQ, .inl (upd j11_cant j11_l4.toNatClampNeg r49_3)))] ++ (pl)) := hD
                      obtain ⟨f101_2, ef101_2⟩ : ∃ z, z = (upd j11_cant j11_l4.toNatClampNeg r49_3) := ⟨_, rfl⟩
                      rw [← ef101_2] at hP hD
                      have u102_1w := FWA.at hg11_1006 (show 0 ≤ j11_l4.toInt by have q0 := r17_3.1; omega) (show j11_l4.toInt < x_mm_15.toInt by have q0 := FF.out t17_2; omega)
                      have hk102_2 : FF (-2 ≤ (j11_cant j11_l4.toNatClampNeg).toInt ∧ (j11_cant j11_l4.toNatClampNeg).toInt < x_mm_15.toInt) := FF.mk (by have h9 := (show 0 ≤ j11_l4.toInt by have q0 := r17_3.1; omega); have h10 := (show j11_l4.toInt < x_mm_15.toInt by have q0 := FF.out t17_2; omega); unfold FW at u102_1w; omega)
                      obtain ⟨u102_1m, u102_1, u102_1l, u102_1t⟩ := RKB.putN hg11_1007 ef101_2 (show 0 ≤ j11_l4.toInt by have q0 := r17_3.1; omega) (show j11_l4.toInt < x_mm_15.toInt by have q0 := FF.out t17_2; omega) (show r49_3.toInt = (j11_cant j11_l4.toNatClampNeg).toInt ∨ (0 ≤ (j11_cant j11_l4.toNatClampNeg).toInt ∧ (r49_3.toInt < 0 ∨ (j11_cant j11_l4.toNatClampNeg).toInt < r49_3.toInt)) by have q0 := (congrArg Int32.toInt ez45_2); have q1 := FF.out hp49_314; have q2 := FF.out t69_2; omega) (show (j11_cant j11_l4.toNatClampNeg).toInt < x_mm_15.toInt by have q0 := FF.out hk102_2; omega)
                      have hk102_3 : FF (((u102_1m : Nat) : Int) ≤ ((j11_nmu : Nat) : Int)) := FF.mk (Int.ofNat_le.mpr u102_1l)
                      have hk102_4 : FF (((u102_1m : Nat) : Int) < ((j11_nmu : Nat) : Int)) := FF.mk (Int.ofNat_lt.mpr (u102_1t (show r49_3.toInt ≠ (j11_cant j11_l4.toNatClampNeg).toInt by have q0 := (congrArg Int32.toInt ez45_2); have q1 := FF.out t69_2; omega)))
                      have hf102_5 : FWA f101_2 x_mm_15.toInt := FWA.put hg11_1006 ef101_2 (show 0 ≤ j11_l4.toInt by have q0 := r17_3.1; omega) (show (r49_3.toInt < 0 ∧ -2 ≤ r49_3.toInt) ∨ (j11_l4.toInt < r49_3.toInt ∧ r49_3.toInt < x_mm_15.toInt) by have q0 := (congrArg Int32.toInt ez45_2); have q1 := FF.out hk24_2; have q2 := FF.out hp49_314; have q3 := FF.out t69_2; omega)
                      obtain ⟨x102_6, ex102_6⟩ : ∃ z : Int32, z = j11_l4 + 1 := ⟨_, rfl⟩
                      have r102_7 : rg x102_6 1 34000 := rg_add ex102_6 r17_3 (show rg (1 : Int32) 1 1 from rg_l (by decide)) (by decide)
                      refine lv_iinc (v := x102_6) (lv' := [(4, .int x102_6), (3, .int 1), (6, .int r49_3), (5, .int r34_3), (0, .ref mm), (1, .ref aso), (2, .ref ant)]) hx hb dX16_decide_102 hl (k := 6) rfl (by rw [ex102_6]; rfl) (by decide) rfl (fun ls hl => ?_)
                      refine lv_goto (tgt := 11) hx hb dX16_decide_105 (by decide) ?_
                      exact ih11 c49_315 k49_316 (1 : Int32) x102_6 u102_1m j11_caso f101_2 H locs ls (show ((c49_315 : Nat) : Int) ≤ ((MC : Nat) : Int) by have q0 := FF.out mc49_315; omega) (show ((k49_316 : Nat) : Int) ≤ ((MS : Nat) : Int) by have q0 := FF.out mk49_316; omega) (rg_w (show rg (1 : Int32) 1 1 from rg_l (by decide)) (by decide)) (rg_w r102_7 (by decide)) hg11_1005 hf102_5 u102_1 (show ((c49_315 : Nat) : Int) = 0 by have q0 := FF.out hi11_1008; have q1 := FF.out hp34_312; have q2 := FF.out ec34_315; have q3 := FF.out hp49_312; have q4 := FF.out ec49_315; omega) (show ((k49_316 : Nat) : Int) = 0 by have q0 := FF.out hi11_1009; have q1 := FF.out hp34_313; have q2 := FF.out ek34_316; have q3 := FF.out hp49_313; have q4 := FF.out ek49_316; omega) (show ((u102_1m : Nat) : Int) + (1 : Int32).toInt ≤ ((j2_nmu : Nat) : Int) by have q0 := r21_3.1; have q1 := FF.out hi11_1010; have q2 := FF.out hk102_4; have q3 := (show (1 : Int32).toInt = 1 from by decide); omega) (show ((2147483647 : Int) - x102_6.toInt).toNat < n11 by have q0 := r17_3.2; have q1 := (eq_add ex102_6 r17_3 (show rg (1 : Int32) 1 1 from rg_l (by decide)) (by decide)); have q2 := (show (1 : Int32).toInt = 1 from by decide); have q3 := hms11; omega) (lv_sub hl [4, 5, 6, 1, 0] rfl) hP hD hS
                    · have t84_2 := FF.mk (i_ne c84_1)
                      refine lv_aload_n hx hb dX16_decide_87 rfl (lv_at hl 4 rfl) ?_
                      refine lv_iload hx hb dX16_decide_88 (lv_at hl 6 rfl) ?_
                      refine lv_iload hx hb dX16_decide_90 (lv_at hl 2 rfl) ?_
                      have hi92_1 : vp_in j11_l4 TQ := (in_of (show 0 ≤ j11_l4.toInt ∧ j11_l4.toInt < ((TQ : Nat) : Int) by have q0 := FF.out t60_2; have q1 := FF.out t84_2; omega))
                      refine va_iast hx hb hK hP hD hS 4 1 rfl rfl hi92_1 dX16_decide_92 (fun H locs hP hD hS => ?_)
                      have hP : va_P D vwCl ([(mm, .inr (16, fs_mm)), (ute, .inl (ct 5, TN, .inr (.inr (.inr (.inr g_ute))))), (uye, .inl (ct 1, TL, .inl g_uye)), (uno_, .inl (ct 1, TL, .inl g_uno_)), (aso, .inl (ct 1, TQ, .inl (upd j11_caso j11_l4.toNatClampNeg r34_3))), (ant, .inl (ct 1, TQ, .inl j11_cant))] ++ (pl)) _ := hP
                      have hD : va_D A ([(mm, .inr (16, fs_mm)), (ute, .inl (ct 5, TN, .inr (.inr (.inr (.inr g_ute))))), (uye, .inl (ct 1, TL, .inl g_uye)), (uno_, .inl (ct 1, TL, .inl g_uno_)), (aso, .inl (ct 1, TQ, .inl (upd j11_caso j11_l4.toNatClampNeg r34_3))), (ant, .inl (ct 1, TQ, .inl j11_cant))] ++ (pl)) := hD
                      obtain ⟨f92_2, ef92_2⟩ : ∃ z, z = (upd j11_caso j11_l4.toNatClampNeg r34_3) := ⟨_, rfl⟩
                      rw [← ef92_2] at hP hD
                      have u93_1w := FWA.at hg11_1005 (show 0 ≤ j11_l4.toInt by have q0 := r17_3.1; omega) (show j11_l4.toInt < x_mm_15.toInt by have q0 := FF.out t17_2; omega)
                      have hk93_2 : FF (-2 ≤ (j11_caso j11_l4.toNatClampNeg).toInt ∧ (j11_caso j11_l4.toNatClampNeg).toInt < x_mm_15.toInt) := FF.mk (by have h9 := (show 0 ≤ j11_l4.toInt by have q0 := r17_3.1; omega); have h10 := (show j11_l4.toInt < x_mm_15.toInt by have q0 := FF.out t17_2; omega); unfold FW at u93_1w; omega)
                      obtain ⟨u93_1m, u93_1, u93_1l, u93_1t⟩ := RKB.putS hg11_1007 ef92_2 (show 0 ≤ j11_l4.toInt by have q0 := r17_3.1; omega) (show j11_l4.toInt < x_mm_15.toInt by have q0 := FF.out t17_2; omega) (show r34_3.toInt = (j11_caso j11_l4.toNatClampNeg).toInt ∨ (0 ≤ (j11_caso j11_l4.toNatClampNeg).toInt ∧ (r34_3.toInt < 0 ∨ (j11_caso j11_l4.toNatClampNeg).toInt < r34_3.toInt)) by have q0 := FF.out t60_2; have q1 := FF.out t84_2; omega) (show (j11_caso j11_l4.toNatClampNeg).toInt < x_mm_15.toInt by have q0 := FF.out hk93_2; omega)
                      have hk93_3 : FF (((u93_1m : Nat) : Int) ≤ ((j11_nmu : Nat) : Int)) := FF.mk (Int.ofNat_le.mpr u93_1l)
                      have hk93_4 : FF (((u93_1m : Nat) : Int) < ((j11_nmu : Nat) : Int)) := FF.mk (Int.ofNat_lt.mpr (u93_1t (show r34_3.toInt ≠ (j11_caso j11_l4.toNatClampNeg).toInt by have q0 := FF.out t60_2; have q1 := FF.out t84_2; omega)))
                      have hf93_5 : FWA f92_2 x_mm_15.toInt := FWA.put hg11_1005 ef92_2 (show 0 ≤ j11_l4.toInt by have q0 := r17_3.1; omega) (show (r34_3.toInt < 0 ∧ -2 ≤ r34_3.toInt) ∨ (j11_l4.toInt < r34_3.toInt ∧ r34_3.toInt < x_mm_15.toInt) by have q0 := FF.out t60_2; have q1 := FF.out t84_2; omega)
                      refine lv_goto (tgt := 102) hx hb dX16_decide_93 (by decide) ?_
                      obtain ⟨x102_1, ex102_1⟩ : ∃ z : Int32, z = j11_l4 + 1 := ⟨_, rfl⟩
                      have r102_2 : rg x102_1 1 34000 := rg_add ex102_1 r17_3 (show rg (1 : Int32) 1 1 from rg_l (by decide)) (by decide)
                      refine lv_iinc (v := x102_1) (lv' := [(4, .int x102_1), (3, .int 1), (6, .int r49_3), (5, .int r34_3), (0, .ref mm), (1, .ref aso), (2, .ref ant)]) hx hb dX16_decide_102 hl (k := 6) rfl (by rw [ex102_1]; rfl) (by decide) rfl (fun ls hl => ?_)
                      refine lv_goto (tgt := 11) hx hb dX16_decide_105 (by decide) ?_
                      exact ih11 c49_315 k49_316 (1 : Int32) x102_1 u93_1m f92_2 j11_cant H locs ls (show ((c49_315 : Nat) : Int) ≤ ((MC : Nat) : Int) by have q0 := FF.out mc49_315; omega) (show ((k49_316 : Nat) : Int) ≤ ((MS : Nat) : Int) by have q0 := FF.out mk49_316; omega) (rg_w (show rg (1 : Int32) 1 1 from rg_l (by decide)) (by decide)) (rg_w r102_2 (by decide)) hf93_5 hg11_1006 u93_1 (show ((c49_315 : Nat) : Int) = 0 by have q0 := FF.out hi11_1008; have q1 := FF.out hp34_312; have q2 := FF.out ec34_315; have q3 := FF.out hp49_312; have q4 := FF.out ec49_315; omega) (show ((k49_316 : Nat) : Int) = 0 by have q0 := FF.out hi11_1009; have q1 := FF.out hp34_313; have q2 := FF.out ek34_316; have q3 := FF.out hp49_313; have q4 := FF.out ek49_316; omega) (show ((u93_1m : Nat) : Int) + (1 : Int32).toInt ≤ ((j2_nmu : Nat) : Int) by have q0 := r21_3.1; have q1 := FF.out hi11_1010; have q2 := FF.out hk93_4; have q3 := (show (1 : Int32).toInt = 1 from by decide); omega) (show ((2147483647 : Int) - x102_1.toInt).toNat < n11 by have q0 := FF.out t60_2; have q1 := FF.out t84_2; have q2 := hms11; omega) (lv_sub hl [4, 5, 6, 1, 0] rfl) hP hD hS
        exact b11 _ j2_accC j2_accS (0 : Int32) (0 : Int32) j2_nmu j2_caso j2_cant H locs ls (show ((j2_accC : Nat) : Int) ≤ ((MC : Nat) : Int) by have q0 := FF.out hm2_1001; omega) (show ((j2_accS : Nat) : Int) ≤ ((MS : Nat) : Int) by have q0 := FF.out hm2_1002; omega) (rg_w (show rg (0 : Int32) 0 0 from rg_l (by decide)) (by decide)) (rg_w (show rg (0 : Int32) 0 0 from rg_l (by decide)) (by decide)) hg2_1004 hg2_1005 hg2_1006 (show ((j2_accC : Nat) : Int) = 0 by have q0 := FF.out (FF.mk (Int.natCast_nonneg j2_accC)); have q1 := FF.out hi2_1007; omega) (show ((j2_accS : Nat) : Int) = 0 by have q0 := FF.out (FF.mk (Int.natCast_nonneg j2_accS)); have q1 := FF.out hi2_1008; omega) (show ((j2_nmu : Nat) : Int) + (0 : Int32).toInt ≤ ((j2_nmu : Nat) : Int) by have q0 := (show (0 : Int32).toInt = 0 from by decide); omega) (Nat.lt_succ_self _) (lv_sub hl [2, 3, 4, 1, 0] rfl) hP hD hS
  exact b2 _ 0 0 (1 : Int32) u0_1m g_aso g_ant H locs ls (show ((0 : Nat) : Int) ≤ ((MC : Nat) : Int) by omega) (show ((0 : Nat) : Int) ≤ ((MS : Nat) : Int) by omega) (rg_w (show rg (1 : Int32) 1 1 from rg_l (by decide)) (by decide)) hg1 hg2 u0_1 (show ((0 : Nat) : Int) = 0 by omega) (show ((0 : Nat) : Int) = 0 by omega) (Nat.lt_succ_self _) (lv_sub hl [1, 2, 3, 0] rfl) hP hD hS
set_option maxHeartbeats 2000000 in
theorem c_X16_reached (l : Launch) (hst : l.stackTraces = false) (D : va_G) (ct : Nat → ClassId) (MC : Nat) (MS : Nat) (pl : va_W) (mm : Nat) (aso : Nat) (ant : Nat) (fs_mm : List Value) (ute : Nat) (x_mm_15 : Int32) (uye : Nat) (uno_ : Nat) (g_ute : Nat → Option Nat) (TN : Nat) (g_uye : Nat → Int32) (TL : Nat) (g_uno_ : Nat → Int32) (g_aso : Nat → Int32) (TQ : Nat) (g_ant : Nat → Int32) (hlen_mm : fs_mm.length = 78) (hf_mm_14 : fs_mm[14]? = some (.ref ute)) (h_x_mm_15 : rg x_mm_15 1 34000) (hf_mm_15 : fs_mm[15]? = some (.int x_mm_15)) (hf_mm_16 : fs_mm[16]? = some (.ref uye)) (hf_mm_17 : fs_mm[17]? = some (.ref uno_)) (hq0 : x_mm_15.toInt ≤ ((TN : Nat) : Int)) (hq1 : x_mm_15.toInt ≤ ((TL : Nat) : Int)) (hq2 : x_mm_15.toInt ≤ ((TQ : Nat) : Int)) (hq3 : x_mm_15.toInt ≤ ((MS : Nat) : Int)) (hq4 : 1 ≤ ((MC : Nat) : Int)) (hg0 : MT pl g_ute g_uye g_uno_ x_mm_15.toInt) (hg1 : FWA g_aso x_mm_15.toInt) (hg2 : FWA g_ant x_mm_15.toInt) : KP (V := Nat) (S := Nat × Nat × (Nat → Int32) × Nat × Nat) (SX := Unit) l yX16_reached cX16_reached 5 (some (.array .boolean)) 1 20 D ct [.ref mm, .ref aso, .ref ant] ([(mm, .inr (16, fs_mm)), (ute, .inl (ct 5, TN, .inr (.inr (.inr (.inr g_ute))))), (uye, .inl (ct 1, TL, .inl g_uye)), (uno_, .inl (ct 1, TL, .inl g_uno_)), (aso, .inl (ct 1, TQ, .inl g_aso)), (ant, .inl (ct 1, TQ, .inl g_ant))] ++ pl) MC MS (fun r : Nat => some (.ref r)) (fun (r : Nat) (u : Nat × Nat × (Nat → Int32) × Nat × Nat) => match u with | (qa, NA, fa, kc, kn) => (r = qa ∧ ((NA : Nat) : Int) = x_mm_15.toInt) ∧ Rg fa NA 0 1 ∧ (((kc : Nat) : Int) = 1) ∧ (((kn : Nat) : Int) = x_mm_15.toInt)) (fun (u : Nat × Nat × (Nat → Int32) × Nat × Nat) => (match u with | (qa, NA, fa, kc, kn) => [(mm, .inr (16, fs_mm)), (ute, .inl (ct 5, TN, .inr (.inr (.inr (.inr g_ute))))), (uye, .inl (ct 1, TL, .inl g_uye)), (uno_, .inl (ct 1, TL, .inl g_uno_)), (aso, .inl (ct 1, TQ, .inl g_aso)), (ant, .inl (ct 1, TQ, .inl g_ant)), (qa, .inl (ct 3, NA, .inl fa))]) ++ pl) (fun (u : Nat × Nat × (Nat → Int32) × Nat × Nat) => match u with | (qa, NA, fa, kc, kn) => kc) (fun (u : Nat × Nat × (Nat → Int32) × Nat × Nat) => match u with | (qa, NA, fa, kc, kn) => kn) 15 RX15 peW (fun _ => False) (fun _ => ([] : va_W) ++ pl) (fun _ => 0) (fun _ => 0) := by
  refine KP_of (by decide) (Nat.le_of_ble_eq_true rfl) (fun p e s m below meth c A Q C0 htab hA H locs hS hP hD hQ ls hl => ?_)
  obtain ⟨hx, hb, hr, hown, hin, hml, hlocks, hn, hK, hZ, hSK⟩ := C0
  have hl : lv_has ls 5 [(0, .ref mm), (1, .ref aso), (2, .ref ant)] := hl
  replace hq0 := FF.mk hq0
  replace hq1 := FF.mk hq1
  replace hq2 := FF.mk hq2
  replace hq3 := FF.mk hq3
  replace hq4 := FF.mk hq4
  refine lv_aload_n hx hb dX16_reached_0 rfl (lv_at hl 0 rfl) ?_
  refine va_get (D := D) (ci := 16) (v := .int x_mm_15) (C := RX16) (T := TX16) (N := 78) hx hb (htX16 hn) (fun _ h => h) hown hK hP 0 rfl rfl 15 (by decide) (hn.get mw_1554 rfl) (fun _ h9 => h9) hf_mm_15 dX16_reached_1 ?_
  obtain ⟨n4_2, gn4_2⟩ : ∃ k : Nat, x_mm_15.toNatClampNeg = k := ⟨_, rfl⟩
  have en4_2 := FF.mk (ncn_up gn4_2 (show 0 ≤ x_mm_15.toInt by have q0 := h_x_mm_15.1; omega))
  obtain ⟨c4_3, ec4_3⟩ : ∃ x9 : Nat, x9 = 0 + 1 := ⟨_, rfl⟩
  have ec4_3 := FF.mk ec4_3
  have mc4_3 : FF (c4_3 ≤ MC) := FF.mk (Int.ofNat_le.mp (show ((c4_3 : Nat) : Int) ≤ ((MC : Nat) : Int) by have q0 := FF.out hq4; have q1 := FF.out ec4_3; omega))
  obtain ⟨k4_4, ek4_4⟩ : ∃ x9 : Nat, x9 = 0 + n4_2 := ⟨_, rfl⟩
  have ek4_4 := FF.mk ek4_4
  have mk4_4 : FF (k4_4 ≤ MS) := FF.mk (Int.ofNat_le.mp (show ((k4_4 : Nat) : Int) ≤ ((MS : Nat) : Int) by have q0 := FF.out hq3; have q1 := FF.out en4_2; have q2 := FF.out ek4_4; omega))
  have nbn4_2 : (0 : Int) ≤ ((n4_2 : Nat) : Int) ∧ ((n4_2 : Nat) : Int) ≤ 500000 := ⟨Int.natCast_nonneg _, (show ((n4_2 : Nat) : Int) ≤ 500000 by have q0 := h_x_mm_15.2; have q1 := FF.out en4_2; omega)⟩
  refine na_new (atype := .boolean) (k1 := c4_3) (n1 := k4_4) hx hb hn mw_216 rfl hK hP hD hS hA 3 rfl n4_2 (n4_2, .inl (fun _ => 0)) (fun _ => rfl) (nneg_of (show 0 ≤ x_mm_15.toInt by have q0 := h_x_mm_15.1; omega)) gn4_2 (show n4_2 * 1 ≤ 536870912 by have h9 := (show ((n4_2 : Nat) : Int) ≤ 536870912 by have q0 := h_x_mm_15.2; have q1 := FF.out en4_2; omega); omega) (Nat.le_of_eq (FF.out ec4_3).symm) (Nat.le_of_eq (FF.out ek4_4).symm) (FF.out mc4_3) (FF.out mk4_4) dX16_reached_4 (fun q4_1 H hP hD hS => ?_)
  have hP := hP.perm pl_last
  have hD := hD.perm pl_last
  have hP : va_P D vwCl ([(mm, .inr (16, fs_mm)), (ute, .inl (ct 5, TN, .inr (.inr (.inr (.inr g_ute))))), (uye, .inl (ct 1, TL, .inl g_uye)), (uno_, .inl (ct 1, TL, .inl g_uno_)), (aso, .inl (ct 1, TQ, .inl g_aso)), (ant, .inl (ct 1, TQ, .inl g_ant)), (q4_1, .inl (ct 3, n4_2, .inl (fun _ => 0)))] ++ (pl)) _ := hP
  have hD : va_D A ([(mm, .inr (16, fs_mm)), (ute, .inl (ct 5, TN, .inr (.inr (.inr (.inr g_ute))))), (uye, .inl (ct 1, TL, .inl g_uye)), (uno_, .inl (ct 1, TL, .inl g_uno_)), (aso, .inl (ct 1, TQ, .inl g_aso)), (ant, .inl (ct 1, TQ, .inl g_ant)), (q4_1, .inl (ct 3, n4_2, .inl (fun _ => 0)))] ++ (pl)) := hD
  refine lv_astore_n (lv' := [(3, .ref q4_1), (0, .ref mm), (1, .ref aso), (2, .ref ant)]) hx hb dX16_reached_6 rfl hl (by decide) rfl (fun ls hl => ?_)
  refine lv_aload_n hx hb dX16_reached_7 rfl (lv_at hl 0 rfl) ?_
  refine lv_iconst (v := 0) hx hb dX16_reached_8 (by decide) ?_
  refine lv_iconst (v := 1) hx hb dX16_reached_9 (by decide) ?_
  have hi10_1 : vp_in (0 : Int32) n4_2 := (in_of (show 0 ≤ (0 : Int32).toInt ∧ (0 : Int32).toInt < ((n4_2 : Nat) : Int) by have q0 := h_x_mm_15.1; have q1 := FF.out en4_2; have q2 := (show (0 : Int32).toInt = 0 from by decide); omega))
  refine va_zast hx hb hK hP hD hS 6 3 rfl rfl hi10_1 dX16_reached_10 (fun H locs hP hD hS => ?_)
  have hP : va_P D vwCl ([(mm, .inr (16, fs_mm)), (ute, .inl (ct 5, TN, .inr (.inr (.inr (.inr g_ute))))), (uye, .inl (ct 1, TL, .inl g_uye)), (uno_, .inl (ct 1, TL, .inl g_uno_)), (aso, .inl (ct 1, TQ, .inl g_aso)), (ant, .inl (ct 1, TQ, .inl g_ant)), (q4_1, .inl (ct 3, n4_2, .inl (upd (fun _ => 0) (0 : Int32).toNatClampNeg (vp_nar .boolean 1))))] ++ (pl)) _ := hP
  have hD : va_D A ([(mm, .inr (16, fs_mm)), (ute, .inl (ct 5, TN, .inr (.inr (.inr (.inr g_ute))))), (uye, .inl (ct 1, TL, .inl g_uye)), (uno_, .inl (ct 1, TL, .inl g_uno_)), (aso, .inl (ct 1, TQ, .inl g_aso)), (ant, .inl (ct 1, TQ, .inl g_ant)), (q4_1, .inl (ct 3, n4_2, .inl (upd (fun _ => 0) (0 : Int32).toNatClampNeg (vp_nar .boolean 1))))] ++ (pl)) := hD
  obtain ⟨f10_2, ef10_2⟩ : ∃ z, z = (upd (fun _ => 0) (0 : Int32).toNatClampNeg (vp_nar .boolean 1)) := ⟨_, rfl⟩
  rw [← ef10_2] at hP hD
  have hc10_3 : Rg f10_2 n4_2 0 1 := Rg_upd ef10_2 (Rg_zero (by decide)) (rg_narZ 1)
  refine lv_iconst (v := 0) hx hb dX16_reached_11 (by decide) ?_
  refine lv_istore (lv' := [(4, .int 0), (3, .ref q4_1), (0, .ref mm), (1, .ref aso), (2, .ref ant)]) hx hb dX16_reached_12 hl (by decide) rfl (fun ls hl => ?_)
  have b14 : ∀ (n14 : Nat) (j14_l4 : Int32) (j14_cq4_1 : Nat → Int32) (H : Heap) (locs : List Loc) (ls : Array Slot), (rg j14_l4 0 2147483647) → (Rg j14_cq4_1 n4_2 0 1) → ((2147483647 : Int) - j14_l4.toInt).toNat < n14 → lv_has ls 5 [(0, .ref mm), (1, .ref aso), (2, .ref ant), (3, .ref q4_1), (4, .int j14_l4)] → va_P D vwCl ([(mm, .inr (16, fs_mm)), (ute, .inl (ct 5, TN, .inr (.inr (.inr (.inr g_ute))))), (uye, .inl (ct 1, TL, .inl g_uye)), (uno_, .inl (ct 1, TL, .inl g_uno_)), (aso, .inl (ct 1, TQ, .inl g_aso)), (ant, .inl (ct 1, TQ, .inl g_ant)), (q4_1, .inl (ct 3, n4_2, .inl j14_cq4_1))] ++ (pl)) H → va_D A ([(mm, .inr (16, fs_mm)), (ute, .inl (ct 5, TN, .inr (.inr (.inr (.inr g_ute))))), (uye, .inl (ct 1, TL, .inl g_uye)), (uno_, .inl (ct 1, TL, .inl g_uno_)), (aso, .inl (ct 1, TQ, .inl g_aso)), (ant, .inl (ct 1, TQ, .inl g_ant)), (q4_1, .inl (ct 3, n4_2, .inl j14_cq4_1))] ++ (pl)) → va_S A s.heap H locs → W p l e ({ frames := 1, cells := MC, slots := MS, locals := 20 }) s m [.ref mm, .ref aso, .ref ant].toArray below meth c H locs c4_3 k4_4 Q (F0 m 14 ls []) := by
    intro n14
    induction n14 with
    | zero => intros; rename_i hms _ _ _ _; exact absurd hms (Nat.not_lt_zero _)
    | succ n14 ih14 =>
      intro j14_l4 j14_cq4_1 H locs ls r14_1001 hc14_1002 hms14 hl hP hD hS
      refine lv_iload hx hb dX16_reached_14 (lv_at hl 4 rfl) ?_
      refine lv_aload_n hx hb dX16_reached_16 rfl (lv_at hl 0 rfl) ?_
      refine va_get (D := D) (ci := 16) (v := .int x_mm_15) (C := RX16) (T := TX16) (N := 78) hx hb (htX16 hn) (fun _ h => h) hown hK hP 0 rfl rfl 15 (by decide) (hn.get mw_1554 rfl) (fun _ h9 => h9) hf_mm_15 dX16_reached_17 ?_
      refine lv_icmp_ge (tgt := 71) hx hb dX16_reached_20 (by decide) (fun c20_1 => ?_) (fun c20_1 => ?_)
      · have t20_2 := FF.mk (i_le c20_1)
        have r20_3 : rg j14_l4 1 2147483647 := rg_leB t20_2 h_x_mm_15 r14_1001 (by decide)
        refine lv_aload_n hx hb dX16_reached_71 rfl (lv_at hl 3 rfl) ?_
        exact et_ra (SX := Unit) (pl1 := fun _ => pl) hQ hx hb hr hlocks dX16_reached_72 (q4_1, n4_2, j14_cq4_1, c4_3, k4_4) ⟨⟨rfl, (show ((n4_2 : Nat) : Int) = x_mm_15.toInt by have q0 := FF.out en4_2; omega)⟩, hc14_1002, (show ((c4_3 : Nat) : Int) = 1 by have q0 := FF.out ec4_3; omega), (show ((k4_4 : Nat) : Int) = x_mm_15.toInt by have q0 := FF.out en4_2; have q1 := FF.out ek4_4; omega)⟩ hP hD hS [0, 1, 2, 3, 4, 5, 6] (by decide) rfl (Nat.le_refl _) (Nat.le_refl _) (FF.out mc4_3) (FF.out mk4_4)
      · have t20_2 := FF.mk (i_nle c20_1)
        have r20_3 : rg j14_l4 0 33999 := rg_ltA t20_2 r14_1001 h_x_mm_15 (by decide)
        refine lv_aload_n hx hb dX16_reached_23 rfl (lv_at hl 3 rfl) ?_
        refine lv_iload hx hb dX16_reached_24 (lv_at hl 4 rfl) ?_
        have hi26_1 : vp_in j14_l4 n4_2 := (in_of (show 0 ≤ j14_l4.toInt ∧ j14_l4.toInt < ((n4_2 : Nat) : Int) by have q0 := r20_3.1; have q1 := FF.out en4_2; have q2 := FF.out t20_2; omega))
        refine va_zald hx hb hK hP 6 3 rfl rfl hi26_1 dX16_reached_26 ?_
        refine lv_topi (fun z26_2 ez26_2 => ?_)
        have r26_3 : rg z26_2 0 1 := Rg_at hc14_1002 hi26_1 ez26_2
        have b44 : ∀ (j44_cq4_1 : Nat → Int32) (H : Heap) (locs : List Loc) (ls : Array Slot), (Rg j44_cq4_1 n4_2 0 1) → lv_has ls 5 [(0, .ref mm), (1, .ref aso), (2, .ref ant), (3, .ref q4_1), (4, .int j14_l4)] → va_P D vwCl ([(mm, .inr (16, fs_mm)), (ute, .inl (ct 5, TN, .inr (.inr (.inr (.inr g_ute))))), (uye, .inl (ct 1, TL, .inl g_uye)), (uno_, .inl (ct 1, TL, .inl g_uno_)), (aso, .inl (ct 1, TQ, .inl g_aso)), (ant, .inl (ct 1, TQ, .inl g_ant)), (q4_1, .inl (ct 3, n4_2, .inl j44_cq4_1))] ++ (pl)) H → va_D A ([(mm, .inr (16, fs_mm)), (ute, .inl (ct 5, TN, .inr (.inr (.inr (.inr g_ute))))), (uye, .inl (ct 1, TL, .inl g_uye)), (uno_, .inl (ct 1, TL, .inl g_uno_)), (aso, .inl (ct 1, TQ, .inl g_aso)), (ant, .inl (ct 1, TQ, .inl g_ant)), (q4_1, .inl (ct 3, n4_2, .inl j44_cq4_1))] ++ (pl)) → va_S A s.heap H locs → W p l e ({ frames := 1, cells := MC, slots := MS, locals := 20 }) s m [.ref mm, .ref aso, .ref ant].toArray below meth c H locs c4_3 k4_4 Q (F0 m 44 ls []) := by
          intro j44_cq4_1 H locs ls hc44_1001 hl hP hD hS
          refine lv_aload_n hx hb dX16_reached_44 rfl (lv_at hl 3 rfl) ?_
          refine lv_iload hx hb dX16_reached_45 (lv_at hl 4 rfl) ?_
          have hi47_1 : vp_in j14_l4 n4_2 := (in_of (show 0 ≤ j14_l4.toInt ∧ j14_l4.toInt < ((n4_2 : Nat) : Int) by have q0 := r20_3.1; have q1 := FF.out en4_2; have q2 := FF.out t20_2; omega))
          refine va_zald hx hb hK hP 6 3 rfl rfl hi47_1 dX16_reached_47 ?_
          refine lv_topi (fun z47_2 ez47_2 => ?_)
          have r47_3 : rg z47_2 0 1 := Rg_at hc44_1001 hi47_1 ez47_2
          have b65 : ∀ (j65_cq4_1 : Nat → Int32) (H : Heap) (locs : List Loc) (ls : Array Slot), (Rg j65_cq4_1 n4_2 0 1) → lv_has ls 5 [(0, .ref mm), (1, .ref aso), (2, .ref ant), (3, .ref q4_1), (4, .int j14_l4)] → va_P D vwCl ([(mm, .inr (16, fs_mm)), (ute, .inl (ct 5, TN, .inr (.inr (.inr (.inr g_ute))))), (uye, .inl (ct 1, TL, .inl g_uye)), (uno_, .inl (ct 1, TL, .inl g_uno_)), (aso, .inl (ct 1, TQ, .inl g_aso)), (ant, .inl (ct 1, TQ, .inl g_ant)), (q4_1, .inl (ct 3, n4_2, .inl j65_cq4_1))] ++ (pl)) H → va_D A ([(mm, .inr (16, fs_mm)), (ute, .inl (ct 5, TN, .inr (.inr (.inr (.inr g_ute))))), (uye, .inl (ct 1, TL, .inl g_uye)), (uno_, .inl (ct 1, TL, .inl g_uno_)), (aso, .inl (ct 1, TQ, .inl g_aso)), (ant, .inl (ct 1, TQ, .inl g_ant)), (q4_1, .inl (ct 3, n4_2, .inl j65_cq4_1))] ++ (pl)) → va_S A s.heap H locs → W p l e ({ frames := 1, cells := MC, slots := MS, locals := 20 }) s m [.ref mm, .ref aso, .ref ant].toArray below meth c H locs c4_3 k4_4 Q (F0 m 65 ls []) := by
            intro j65_cq4_1 H locs ls hc65_1001 hl hP hD hS
            obtain ⟨x65_1, ex65_1⟩ : ∃ z : Int32, z = j14_l4 + 1 := ⟨_, rfl⟩
            have r65_2 : rg x65_1 1 34000 := rg_add ex65_1 r20_3 (show rg (1 : Int32) 1 1 from rg_l (by decide)) (by decide)
            refine lv_iinc (v := x65_1) (lv' := [(4, .int x65_1), (0, .ref mm), (1, .ref aso), (2, .ref ant), (3, .ref q4_1)]) hx hb dX16_reached_65 hl (k := 4) rfl (by rw [ex65_1]; rfl) (by decide) rfl (fun ls hl => ?_)
            refine lv_goto (tgt := 14) hx hb dX16_reached_68 (by decide) ?_
            exact ih14 x65_1 j65_cq4_1 H locs ls (rg_w r65_2 (by decide)) hc65_1001 (show ((2147483647 : Int) - x65_1.toInt).toNat < n14 by have q0 := r20_3.2; have q1 := (eq_add ex65_1 r20_3 (show rg (1 : Int32) 1 1 from rg_l (by decide)) (by decide)); have q2 := (show (1 : Int32).toInt = 1 from by decide); have q3 := hms14; omega) (lv_sub hl [1, 2, 3, 4, 0] rfl) hP hD hS
          refine lv_if_eq (tgt := 65) hx hb dX16_reached_48 (by decide) (fun c48_1 => ?_) (fun c48_1 => ?_)
          · have t48_2 := FF.mk (i_eq c48_1)
            have r48_3 : rg z47_2 0 0 := rg_eqA t48_2 r47_3 (show rg (0 : Int32) 0 0 from rg_l (by decide)) (by decide)
            exact b65 j44_cq4_1 H locs ls hc44_1001 (lv_sub hl [0, 1, 2, 3, 4] rfl) hP hD hS
          · have t48_2 := FF.mk (i_ne c48_1)
            have r48_3 : rg z47_2 1 1 := rg_neAl t48_2 r47_3 (show rg (0 : Int32) 0 0 from rg_l (by decide)) (by decide)
            refine lv_aload_n hx hb dX16_reached_51 rfl (lv_at hl 2 rfl) ?_
            refine lv_iload hx hb dX16_reached_52 (lv_at hl 4 rfl) ?_
            have hi54_1 : vp_in j14_l4 TQ := (in_of (show 0 ≤ j14_l4.toInt ∧ j14_l4.toInt < ((TQ : Nat) : Int) by have q0 := r20_3.1; have q1 := FF.out hq2; have q2 := FF.out t20_2; omega))
            refine va_iald hx hb hK hP 5 1 rfl rfl hi54_1 dX16_reached_54 ?_
            refine lv_topi (fun z54_2 ez54_2 => ?_)
            refine lv_if_lt (tgt := 65) hx hb dX16_reached_55 (by decide) (fun c55_1 => ?_) (fun c55_1 => ?_)
            · have t55_2 := FF.mk (i_lt c55_1)
              have r55_3 : rg z54_2 (-2147483648) (-1) := rg_ltA t55_2 (rg_any z54_2) (show rg (0 : Int32) 0 0 from rg_l (by decide)) (by decide)
              exact b65 j44_cq4_1 H locs ls hc44_1001 (lv_sub hl [0, 1, 2, 3, 4] rfl) hP hD hS
            · have t55_2 := FF.mk (i_nlt c55_1)
              have r55_3 : rg z54_2 0 2147483647 := rg_leB t55_2 (show rg (0 : Int32) 0 0 from rg_l (by decide)) (rg_any z54_2) (by decide)
              have hk58_1 : FF (((g_aso j14_l4.toNatClampNeg).toInt < 0 ∧ -2 ≤ (g_aso j14_l4.toNatClampNeg).toInt) ∨ (j14_l4.toInt < (g_aso j14_l4.toNatClampNeg).toInt ∧ (g_aso j14_l4.toNatClampNeg).toInt < x_mm_15.toInt)) := FF.mk (FWA.at hg1 (show 0 ≤ j14_l4.toInt by have q0 := r20_3.1; omega) (show j14_l4.toInt < x_mm_15.toInt by have q0 := FF.out t20_2; omega))
              have hk58_2 : FF (((g_ant j14_l4.toNatClampNeg).toInt < 0 ∧ -2 ≤ (g_ant j14_l4.toNatClampNeg).toInt) ∨ (j14_l4.toInt < (g_ant j14_l4.toNatClampNeg).toInt ∧ (g_ant j14_l4.toNatClampNeg).toInt < x_mm_15.toInt)) := FF.mk (FWA.at hg2 (show 0 ≤ j14_l4.toInt by have q0 := r20_3.1; omega) (show j14_l4.toInt < x_mm_15.toInt by have q0 := FF.out t20_2; omega))
              refine lv_aload_n hx hb dX16_reached_58 rfl (lv_at hl 3 rfl) ?_
              refine lv_aload_n hx hb dX16_reached_59 rfl (lv_at hl 2 rfl) ?_
              refine lv_iload hx hb dX16_reached_60 (lv_at hl 4 rfl) ?_
              have hi62_1 : vp_in j14_l4 TQ := (in_of (show 0 ≤ j14_l4.toInt ∧ j14_l4.toInt < ((TQ : Nat) : Int) by have q0 := r20_3.1; have q1 := (congrArg Int32.toInt ez54_2); have q2 := FF.out hq2; have q3 := FF.out t55_2; have q4 := FF.out hk58_2; have q5 := (show (0 : Int32).toInt = 0 from by decide); omega))
              refine va_iald hx hb hK hP 5 1 rfl rfl hi62_1 dX16_reached_62 ?_
              refine lv_topi (fun z62_2 ez62_2 => ?_)
              obtain rfl : z54_2 = z62_2 := ez54_2.trans ez62_2.symm
              refine lv_iconst (v := 1) hx hb dX16_reached_63 (by decide) ?_
              have hi64_1 : vp_in z54_2 n4_2 := (in_of (show 0 ≤ z54_2.toInt ∧ z54_2.toInt < ((n4_2 : Nat) : Int) by have q0 := (congrArg Int32.toInt ez54_2); have q1 := FF.out en4_2; have q2 := FF.out t55_2; have q3 := FF.out hk58_2; have q4 := (show (0 : Int32).toInt = 0 from by decide); omega))
              refine va_zast hx hb hK hP hD hS 6 3 rfl rfl hi64_1 dX16_reached_64 (fun H locs hP hD hS => ?_)
              have hP : va_P D vwCl ([(mm, .inr (16, fs_mm)), (ute, .inl (ct 5, TN, .inr (.inr (.inr (.inr g_ute))))), (uye, .inl (ct 1, TL, .inl g_uye)), (uno_, .inl (ct 1, TL, .inl g_uno_)), (aso, .inl (ct 1, TQ, .inl g_aso)), (ant, .inl (ct 1, TQ, .inl g_ant)), (q4_1, .inl (ct 3, n4_2, .inl (upd j44_cq4_1 z54_2.toNatClampNeg (vp_nar .boolean 1))))] ++ (pl)) _ := hP
              have hD : va_D A ([(mm, .inr (16, fs_mm)), (ute, .inl (ct 5, TN, .inr (.inr (.inr (.inr g_ute))))), (uye, .inl (ct 1, TL, .inl g_uye)), (uno_, .inl (ct 1, TL, .inl g_uno_)), (aso, .inl (ct 1, TQ, .inl g_aso)), (ant, .inl (ct 1, TQ, .inl g_ant)), (q4_1, .inl (ct 3, n4_2, .inl (upd j44_cq4_1 z54_2.toNatClampNeg (vp_nar .boolean 1))))] ++ (pl)) := hD
              obtain ⟨f64_2, ef64_2⟩ : ∃ z, z = (upd j44_cq4_1 z54_2.toNatClampNeg (vp_nar .boolean 1)) := ⟨_, rfl⟩
              rw [← ef64_2] at hP hD
              have hc64_3 : Rg f64_2 n4_2 0 1 := Rg_upd ef64_2 hc44_1001 (rg_narZ 1)
              exact b65 f64_2 H locs ls hc64_3 (lv_sub hl [0, 1, 2, 3, 4] rfl) hP hD hS
        refine lv_if_eq (tgt := 44) hx hb dX16_reached_27 (by decide) (fun c27_1 => ?_) (fun c27_1 => ?_)
        · have t27_2 := FF.mk (i_eq c27_1)
          have r27_3 : rg z26_2 0 0 := rg_eqA t27_2 r26_3 (show rg (0 : Int32) 0 0 from rg_l (by decide)) (by decide)
          exact b44 j14_cq4_1 H locs ls hc14_1002 (lv_sub hl [0, 1, 2, 3, 4] rfl) hP hD hS
        · have t27_2 := FF.mk (i_ne c27_1)
          have r27_3 : rg z26_2 1 1 := rg_neAl t27_2 r26_3 (show rg (0 : Int32) 0 0 from rg_l (by decide)) (by decide)
          refine lv_aload_n hx hb dX16_reached_30 rfl (lv_at hl 1 rfl) ?_
          refine lv_iload hx hb dX16_reached_31 (lv_at hl 4 rfl) ?_
          have hi33_1 : vp_in j14_l4 TQ := (in_of (show 0 ≤ j14_l4.toInt ∧ j14_l4.toInt < ((TQ : Nat) : Int) by have q0 := r20_3.1; have q1 := FF.out hq2; have q2 := FF.out t20_2; omega))
          refine va_iald hx hb hK hP 4 1 rfl rfl hi33_1 dX16_reached_33 ?_
          refine lv_topi (fun z33_2 ez33_2 => ?_)
          refine lv_if_lt (tgt := 44) hx hb dX16_reached_34 (by decide) (fun c34_1 => ?_) (fun c34_1 => ?_)
          · have t34_2 := FF.mk (i_lt c34_1)
            have r34_3 : rg z33_2 (-2147483648) (-1) := rg_ltA t34_2 (rg_any z33_2) (show rg (0 : Int32) 0 0 from rg_l (by decide)) (by decide)
            exact b44 j14_cq4_1 H locs ls hc14_1002 (lv_sub hl [0, 1, 2, 3, 4] rfl) hP hD hS
          · have t34_2 := FF.mk (i_nlt c34_1)
            have r34_3 : rg z33_2 0 2147483647 := rg_leB t34_2 (show rg (0 : Int32) 0 0 from rg_l (by decide)) (rg_any z33_2) (by decide)
            have hk37_1 : FF (((g_aso j14_l4.toNatClampNeg).toInt < 0 ∧ -2 ≤ (g_aso j14_l4.toNatClampNeg).toInt) ∨ (j14_l4.toInt < (g_aso j14_l4.toNatClampNeg).toInt ∧ (g_aso j14_l4.toNatClampNeg).toInt < x_mm_15.toInt)) := FF.mk (FWA.at hg1 (show 0 ≤ j14_l4.toInt by have q0 := r20_3.1; omega) (show j14_l4.toInt < x_mm_15.toInt by have q0 := FF.out t20_2; omega))
            have hk37_2 : FF (((g_ant j14_l4.toNatClampNeg).toInt < 0 ∧ -2 ≤ (g_ant j14_l4.toNatClampNeg).toInt) ∨ (j14_l4.toInt < (g_ant j14_l4.toNatClampNeg).toInt ∧ (g_ant j14_l4.toNatClampNeg).toInt < x_mm_15.toInt)) := FF.mk (FWA.at hg2 (show 0 ≤ j14_l4.toInt by have q0 := r20_3.1; omega) (show j14_l4.toInt < x_mm_15.toInt by have q0 := FF.out t20_2; omega))
            refine lv_aload_n hx hb dX16_reached_37 rfl (lv_at hl 3 rfl) ?_
            refine lv_aload_n hx hb dX16_reached_38 rfl (lv_at hl 1 rfl) ?_
            refine lv_iload hx hb dX16_reached_39 (lv_at hl 4 rfl) ?_
            have hi41_1 : vp_in j14_l4 TQ := (in_of (show 0 ≤ j14_l4.toInt ∧ j14_l4.toInt < ((TQ : Nat) : Int) by have q0 := r20_3.1; have q1 := (congrArg Int32.toInt ez33_2); have q2 := FF.out hq2; have q3 := FF.out t34_2; have q4 := FF.out hk37_1; have q5 := (show (0 : Int32).toInt = 0 from by decide); omega))
            refine va_iald hx hb hK hP 4 1 rfl rfl hi41_1 dX16_reached_41 ?_
            refine lv_topi (fun z41_2 ez41_2 => ?_)
            obtain rfl : z33_2 = z41_2 := ez33_2.trans ez41_2.symm
            refine lv_iconst (v := 1) hx hb dX16_reached_42 (by decide) ?_
            have hi43_1 : vp_in z33_2 n4_2 := (in_of (show 0 ≤ z33_2.toInt ∧ z33_2.toInt < ((n4_2 : Nat) : Int) by have q0 := (congrArg Int32.toInt ez33_2); have q1 := FF.out en4_2; have q2 := FF.out t34_2; have q3 := FF.out hk37_1; have q4 := (show (0 : Int32).toInt = 0 from by decide); omega))
            refine va_zast hx hb hK hP hD hS 6 3 rfl rfl hi43_1 dX16_reached_43 (fun H locs hP hD hS => ?_)
            have hP : va_P D vwCl ([(mm, .inr (16, fs_mm)), (ute, .inl (ct 5, TN, .inr (.inr (.inr (.inr g_ute))))), (uye, .inl (ct 1, TL, .inl g_uye)), (uno_, .inl (ct 1, TL, .inl g_uno_)), (aso, .inl (ct 1, TQ, .inl g_aso)), (ant, .inl (ct 1, TQ, .inl g_ant)), (q4_1, .inl (ct 3, n4_2, .inl (upd j14_cq4_1 z33_2.toNatClampNeg (vp_nar .boolean 1))))] ++ (pl)) _ := hP
            have hD : va_D A ([(mm, .inr (16, fs_mm)), (ute, .inl (ct 5, TN, .inr (.inr (.inr (.inr g_ute))))), (uye, .inl (ct 1, TL, .inl g_uye)), (uno_, .inl (ct 1, TL, .inl g_uno_)), (aso, .inl (ct 1, TQ, .inl g_aso)), (ant, .inl (ct 1, TQ, .inl g_ant)), (q4_1, .inl (ct 3, n4_2, .inl (upd j14_cq4_1 z33_2.toNatClampNeg (vp_nar .boolean 1))))] ++ (pl)) := hD
            obtain ⟨f43_2, ef43_2⟩ : ∃ z, z = (upd j14_cq4_1 z33_2.toNatClampNeg (vp_nar .boolean 1)) := ⟨_, rfl⟩
            rw [← ef43_2] at hP hD
            have hc43_3 : Rg f43_2 n4_2 0 1 := Rg_upd ef43_2 hc14_1002 (rg_narZ 1)
            exact b44 f43_2 H locs ls hc43_3 (lv_sub hl [0, 1, 2, 3, 4] rfl) hP hD hS
  exact b14 _ (0 : Int32) f10_2 H locs ls (rg_w (show rg (0 : Int32) 0 0 from rg_l (by decide)) (by decide)) hc10_3 (Nat.lt_succ_self _) (lv_sub hl [2, 3, 4, 1, 0] rfl) hP hD hS
