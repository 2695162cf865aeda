/-! worlds with a pool behind: X ++ pl -/
theorem mp_of {X pl cx : va_W} {is : List Nat} (h : is.map (fun i => X[i]?) = cx.map some) : is.map (fun i => (X ++ pl)[i]?) = cx.map some := by
  induction is generalizing cx with
  | nil => cases cx with
    | nil => rfl
    | cons a b => cases h
  | cons i is ih => cases cx with
    | nil => cases h
    | cons a b =>
      simp only [List.map_cons, List.cons.injEq] at h ⊢
      refine ⟨?_, ih h.2⟩
      rw [List.getElem?_append_left (List.getElem?_eq_some_iff.mp h.1).1]
      exact h.1
section POOL
variable {p : Program} {l : Launch} {e : Env} {R : Room} {s : State} {m : MethodId} {args : Array Value} {below : List Frame} {meth : Method} {c : Code} {H H0 : Heap} {locs : List Loc} {cells slots : Nat} {Q : State → Prop} {A : Nat → Prop}
variable {D : va_G} {ct : Nat → ClassId} {X wc cx wr pl : va_W} {own : String} {index nL maxL mc ms fr lo n k1 n1 pc : Nat} {y : MethodName} {bytes cc : ByteArray} {ret : Option FieldType} {b : Addr} {As rest : List Value} {ls : Array Slot}
/-- the pool stays where it is -/
theorem gq_v {S : Type} {post : S → Prop} {w1 : S → va_W} {a : Array Value} {st0 : List Value} (isC isR : List Nat) (hr0 : va_P D vwCl wc H → va_D A wc → (∀ q, va_A wc H.size q → A q) → va_Run p l e R s m args below meth c H locs cells slots mc ms (F0 m pc ls st0) rest (va_Qv post (PoC D (va_A wc H.size) w1) (va_A wc H.size) a) (va_A wc H.size))
    (hP : va_P D vwCl (X ++ pl) H) (hD : va_D A (X ++ pl)) (hS : va_S A H0 H locs) (hA : ∀ q, H0.size ≤ q → A q) (hC : isC.map (fun i => X[i]?) = wc.map some) (hR : isR.map (fun i => X[i]?) = wr.map some) (hnc : va_nd isC = true) (hnd : va_nd isR = true) (hdis : ∀ i ∈ isR, i ∉ isC) (h1 : cells + mc ≤ k1) (h2 : slots + ms ≤ n1)
    (kk : ∀ (u : S) (H1 : Heap) (locs1 : List Loc), post u → va_P D vwCl ((wr ++ w1 u) ++ pl) H1 → va_D A ((wr ++ w1 u) ++ pl) → va_S A H0 H1 locs1 → W p l e R s m args below meth c H1 locs1 k1 n1 Q (F0 m (pc + 3) ls rest)) : W p l e R s m args below meth c H locs cells slots Q (F0 m pc ls st0) := by
  have hF := va_free hD hS hA isC (mp_of hC)
  have hr := hr0 (hP.sub isC (fm_of (mp_of hC))) (hD.sub isC hnc (mp_of hC)) hF
  refine va_callv hr hS (fun q _ h => hF q h) hF (fun u t H1 locs1 ht hvm hpost hB hsz hk hS1 => ?_)
  obtain ⟨hP1, hD1⟩ := hB
  rw [ht] at hP1
  obtain ⟨hP2, hD2⟩ := va_joinQ hP hD isC isR hC hR hnd hdis hk hF hP1 hD1
  exact W.widen h1 h2 (kk u H1 locs1 hpost hP2 hD2 hS1)
theorem gq_i {S : Type} {post : Int32 → S → Prop} {w1 : S → va_W} {a : Array Value} {st0 : List Value} (isC isR : List Nat) (hr0 : va_P D vwCl wc H → va_D A wc → (∀ q, va_A wc H.size q → A q) → va_Run p l e R s m args below meth c H locs cells slots mc ms (F0 m pc ls st0) rest (va_Qi post (PoC D (va_A wc H.size) w1) (va_A wc H.size) a) (va_A wc H.size))
    (hP : va_P D vwCl (X ++ pl) H) (hD : va_D A (X ++ pl)) (hS : va_S A H0 H locs) (hA : ∀ q, H0.size ≤ q → A q) (hC : isC.map (fun i => X[i]?) = wc.map some) (hR : isR.map (fun i => X[i]?) = wr.map some) (hnc : va_nd isC = true) (hnd : va_nd isR = true) (hdis : ∀ i ∈ isR, i ∉ isC) (h1 : cells + mc ≤ k1) (h2 : slots + ms ≤ n1)
    (kk : ∀ (r : Int32) (u : S) (H1 : Heap) (locs1 : List Loc), post r u → va_P D vwCl ((wr ++ w1 u) ++ pl) H1 → va_D A ((wr ++ w1 u) ++ pl) → va_S A H0 H1 locs1 → W p l e R s m args below meth c H1 locs1 k1 n1 Q (F0 m (pc + 3) ls (.int r :: rest))) : W p l e R s m args below meth c H locs cells slots Q (F0 m pc ls st0) := by
  have hF := va_free hD hS hA isC (mp_of hC)
  have hr := hr0 (hP.sub isC (fm_of (mp_of hC))) (hD.sub isC hnc (mp_of hC)) hF
  refine va_calli hr hS (fun q _ h => hF q h) hF (fun r u t H1 locs1 ht hvm hpost hB hsz hk hS1 => ?_)
  obtain ⟨hP1, hD1⟩ := hB
  rw [ht] at hP1
  obtain ⟨hP2, hD2⟩ := va_joinQ hP hD isC isR hC hR hnd hdis hk hF hP1 hD1
  exact W.widen h1 h2 (kk r u H1 locs1 hpost hP2 hD2 hS1)
theorem gq_l {S : Type} {post : Int64 → S → Prop} {w1 : S → va_W} {a : Array Value} {st0 : List Value} (isC isR : List Nat) (hr0 : va_P D vwCl wc H → va_D A wc → (∀ q, va_A wc H.size q → A q) → va_Run p l e R s m args below meth c H locs cells slots mc ms (F0 m pc ls st0) rest (va_Ql post (PoC D (va_A wc H.size) w1) (va_A wc H.size) a) (va_A wc H.size))
    (hP : va_P D vwCl (X ++ pl) H) (hD : va_D A (X ++ pl)) (hS : va_S A H0 H locs) (hA : ∀ q, H0.size ≤ q → A q) (hC : isC.map (fun i => X[i]?) = wc.map some) (hR : isR.map (fun i => X[i]?) = wr.map some) (hnc : va_nd isC = true) (hnd : va_nd isR = true) (hdis : ∀ i ∈ isR, i ∉ isC) (h1 : cells + mc ≤ k1) (h2 : slots + ms ≤ n1)
    (kk : ∀ (r : Int64) (u : S) (H1 : Heap) (locs1 : List Loc), post r u → va_P D vwCl ((wr ++ w1 u) ++ pl) H1 → va_D A ((wr ++ w1 u) ++ pl) → va_S A H0 H1 locs1 → W p l e R s m args below meth c H1 locs1 k1 n1 Q (F0 m (pc + 3) ls (.long r :: rest))) : W p l e R s m args below meth c H locs cells slots Q (F0 m pc ls st0) := by
  have hF := va_free hD hS hA isC (mp_of hC)
  have hr := hr0 (hP.sub isC (fm_of (mp_of hC))) (hD.sub isC hnc (mp_of hC)) hF
  refine va_calll hr hS (fun q _ h => hF q h) hF (fun r u t H1 locs1 ht hvm hpost hB hsz hk hS1 => ?_)
  obtain ⟨hP1, hD1⟩ := hB
  rw [ht] at hP1
  obtain ⟨hP2, hD2⟩ := va_joinQ hP hD isC isR hC hR hnd hdis hk hF hP1 hD1
  exact W.widen h1 h2 (kk r u H1 locs1 hpost hP2 hD2 hS1)
/-- the callee gets the pool, too -/
theorem gp_v {S : Type} {post : S → Prop} {rx pl1 : S → va_W} {a : Array Value} {st0 : List Value} (isC isR : List Nat) (hr0 : va_P D vwCl (cx ++ pl) H → va_D A (cx ++ pl) → (∀ q, va_A (cx ++ pl) H.size q → A q) → va_Run p l e R s m args below meth c H locs cells slots mc ms (F0 m pc ls st0) rest (va_Qv post (PoC D (va_A (cx ++ pl) H.size) (fun u => rx u ++ pl1 u)) (va_A (cx ++ pl) H.size) a) (va_A (cx ++ pl) H.size))
    (hP : va_P D vwCl (X ++ pl) H) (hD : va_D A (X ++ pl)) (hS : va_S A H0 H locs) (hA : ∀ q, H0.size ≤ q → A q) (hC : isC.map (fun i => X[i]?) = cx.map some) (hR : isR.map (fun i => X[i]?) = wr.map some) (hnc : va_nd isC = true) (hnd : va_nd isR = true) (hdis : ∀ i ∈ isR, i ∉ isC) (h1 : cells + mc ≤ k1) (h2 : slots + ms ≤ n1)
    (kk : ∀ (u : S) (H1 : Heap) (locs1 : List Loc), post u → va_P D vwCl ((wr ++ rx u) ++ pl1 u) H1 → va_D A ((wr ++ rx u) ++ pl1 u) → va_S A H0 H1 locs1 → W p l e R s m args below meth c H1 locs1 k1 n1 Q (F0 m (pc + 3) ls rest)) : W p l e R s m args below meth c H locs cells slots Q (F0 m pc ls st0) := by
  have hF := va_freeP hD hS hA isC hC
  have hr := hr0 (hP.part isC hC) (hD.part isC hnc hC) hF
  refine va_callv hr hS (fun q _ h => hF q h) hF (fun u t H1 locs1 ht hvm hpost hB hsz hk hS1 => ?_)
  obtain ⟨hP1, hD1⟩ := hB
  rw [ht] at hP1
  obtain ⟨hP2, hD2⟩ := va_joinP hP hD isC isR hC hR hnd hdis hk hF hP1 hD1
  exact W.widen h1 h2 (kk u H1 locs1 hpost hP2 hD2 hS1)
theorem gp_i {S : Type} {post : Int32 → S → Prop} {rx pl1 : S → va_W} {a : Array Value} {st0 : List Value} (isC isR : List Nat) (hr0 : va_P D vwCl (cx ++ pl) H → va_D A (cx ++ pl) → (∀ q, va_A (cx ++ pl) H.size q → A q) → va_Run p l e R s m args below meth c H locs cells slots mc ms (F0 m pc ls st0) rest (va_Qi post (PoC D (va_A (cx ++ pl) H.size) (fun u => rx u ++ pl1 u)) (va_A (cx ++ pl) H.size) a) (va_A (cx ++ pl) H.size))
    (hP : va_P D vwCl (X ++ pl) H) (hD : va_D A (X ++ pl)) (hS : va_S A H0 H locs) (hA : ∀ q, H0.size ≤ q → A q) (hC : isC.map (fun i => X[i]?) = cx.map some) (hR : isR.map (fun i => X[i]?) = wr.map some) (hnc : va_nd isC = true) (hnd : va_nd isR = true) (hdis : ∀ i ∈ isR, i ∉ isC) (h1 : cells + mc ≤ k1) (h2 : slots + ms ≤ n1)
    (kk : ∀ (r : Int32) (u : S) (H1 : Heap) (locs1 : List Loc), post r u → va_P D vwCl ((wr ++ rx u) ++ pl1 u) H1 → va_D A ((wr ++ rx u) ++ pl1 u) → va_S A H0 H1 locs1 → W p l e R s m args below meth c H1 locs1 k1 n1 Q (F0 m (pc + 3) ls (.int r :: rest))) : W p l e R s m args below meth c H locs cells slots Q (F0 m pc ls st0) := by
  have hF := va_freeP hD hS hA isC hC
  have hr := hr0 (hP.part isC hC) (hD.part isC hnc hC) hF
  refine va_calli hr hS (fun q _ h => hF q h) hF (fun r u t H1 locs1 ht hvm hpost hB hsz hk hS1 => ?_)
  obtain ⟨hP1, hD1⟩ := hB
  rw [ht] at hP1
  obtain ⟨hP2, hD2⟩ := va_joinP hP hD isC isR hC hR hnd hdis hk hF hP1 hD1
  exact W.widen h1 h2 (kk r u H1 locs1 hpost hP2 hD2 hS1)
theorem gp_l {S : Type} {post : Int64 → S → Prop} {rx pl1 : S → va_W} {a : Array Value} {st0 : List Value} (isC isR : List Nat) (hr0 : va_P D vwCl (cx ++ pl) H → va_D A (cx ++ pl) → (∀ q, va_A (cx ++ pl) H.size q → A q) → va_Run p l e R s m args below meth c H locs cells slots mc ms (F0 m pc ls st0) rest (va_Ql post (PoC D (va_A (cx ++ pl) H.size) (fun u => rx u ++ pl1 u)) (va_A (cx ++ pl) H.size) a) (va_A (cx ++ pl) H.size))
    (hP : va_P D vwCl (X ++ pl) H) (hD : va_D A (X ++ pl)) (hS : va_S A H0 H locs) (hA : ∀ q, H0.size ≤ q → A q) (hC : isC.map (fun i => X[i]?) = cx.map some) (hR : isR.map (fun i => X[i]?) = wr.map some) (hnc : va_nd isC = true) (hnd : va_nd isR = true) (hdis : ∀ i ∈ isR, i ∉ isC) (h1 : cells + mc ≤ k1) (h2 : slots + ms ≤ n1)
    (kk : ∀ (r : Int64) (u : S) (H1 : Heap) (locs1 : List Loc), post r u → va_P D vwCl ((wr ++ rx u) ++ pl1 u) H1 → va_D A ((wr ++ rx u) ++ pl1 u) → va_S A H0 H1 locs1 → W p l e R s m args below meth c H1 locs1 k1 n1 Q (F0 m (pc + 3) ls (.long r :: rest))) : W p l e R s m args below meth c H locs cells slots Q (F0 m pc ls st0) := by
  have hF := va_freeP hD hS hA isC hC
  have hr := hr0 (hP.part isC hC) (hD.part isC hnc hC) hF
  refine va_calll hr hS (fun q _ h => hF q h) hF (fun r u t H1 locs1 ht hvm hpost hB hsz hk hS1 => ?_)
  obtain ⟨hP1, hD1⟩ := hB
  rw [ht] at hP1
  obtain ⟨hP2, hD2⟩ := va_joinP hP hD isC isR hC hR hnd hdis hk hF hP1 hD1
  exact W.widen h1 h2 (kk r u H1 locs1 hpost hP2 hD2 hS1)
/-- the ends -/
theorem endp_v {S : Type} {post : S → Prop} {rx pl1 : S → va_W} (hQ : MQ below (va_Qv post (PoC D A (fun u => rx u ++ pl1 u)) A) args s mc ms A = Q) (hx : p.tables.exec = Jvm.exec) (hb : c.code = cc) (hr : meth.sig.returnType = none) (hlocks : meth.locks = false) (hdg : decode cc pc = .ok (.return_, 1)) (u : S) (hpost : post u) (hP : va_P D vwCl (X ++ pl1 u) H) (hD : va_D A (X ++ pl1 u)) (hS : va_S A s.heap H locs)
    (is : List Nat) (hnd : va_nd is = true) (hs2 : is.map (fun i => X[i]?) = (rx u).map some) (h1 : cells ≤ mc) (h2 : slots ≤ ms) : W p l e R s m args below meth c H locs cells slots Q (F0 m pc ls []) := by
  subst hQ; refine W.widen h1 h2 ?_
  exact W.vret hx hb hr (fun t ht hW => ⟨⟨u, rfl, hpost, by rw [ht]; exact hP.part is hs2, hD.part is hnd hs2⟩, hS.F ht⟩) hS.2.2 hdg
theorem endp_i {S : Type} {post : Int32 → S → Prop} {rx pl1 : S → va_W} {ty : FieldType} (hQ : MQ below (va_Qi post (PoC D A (fun u => rx u ++ pl1 u)) A) args s mc ms A = Q) (hx : p.tables.exec = Jvm.exec) (hb : c.code = cc) (hr : meth.sig.returnType = some ty) (hlocks : meth.locks = false) (hdg : decode cc pc = .ok (.ireturn, 1)) {r : Int32} (hnar : narrow ty (.int r) = .int r) (u : S) (hpost : post r u) (hP : va_P D vwCl (X ++ pl1 u) H) (hD : va_D A (X ++ pl1 u)) (hS : va_S A s.heap H locs)
    (is : List Nat) (hnd : va_nd is = true) (hs2 : is.map (fun i => X[i]?) = (rx u).map some) (h1 : cells ≤ mc) (h2 : slots ≤ ms) : W p l e R s m args below meth c H locs cells slots Q (F0 m pc ls [.int r]) := by
  subst hQ; refine W.widen h1 h2 ?_
  exact W.zret hx hb hr hnar (fun t ht hW => ⟨⟨r, u, rfl, hpost, by rw [ht]; exact hP.part is hs2, hD.part is hnd hs2⟩, hS.F ht⟩) hS.2.2 hdg
theorem endp_l {S : Type} {post : Int64 → S → Prop} {rx pl1 : S → va_W} (hQ : MQ below (va_Ql post (PoC D A (fun u => rx u ++ pl1 u)) A) args s mc ms A = Q) (hx : p.tables.exec = Jvm.exec) (hb : c.code = cc) (hr : meth.sig.returnType = some .long) (hlocks : meth.locks = false) (hdg : decode cc pc = .ok (.lreturn, 1)) {r : Int64} (u : S) (hpost : post r u) (hP : va_P D vwCl (X ++ pl1 u) H) (hD : va_D A (X ++ pl1 u)) (hS : va_S A s.heap H locs)
    (is : List Nat) (hnd : va_nd is = true) (hs2 : is.map (fun i => X[i]?) = (rx u).map some) (h1 : cells ≤ mc) (h2 : slots ≤ ms) : W p l e R s m args below meth c H locs cells slots Q (F0 m pc ls [.long r]) := by
  subst hQ; refine W.widen h1 h2 ?_
  exact W.lret hx hb hr (fun t ht hW => ⟨⟨r, u, rfl, hpost, by rw [ht]; exact hP.part is hs2, hD.part is hnd hs2⟩, hS.F ht⟩) hS.2.2 hdg
end POOL
/-! the Facts: objects of which nothing is known but their fields' kinds -/
def FP (L : List Nat) (g : Nat → va_E) : Prop := ∀ a, a ∈ L → ∃ (k : Int32) (lo hi su on : Int64), g a = .inr (1, [.int k, .long lo, .long hi, .long su, .long on])
theorem FP.up {L : List Nat} {g : Nat → va_E} {a : Nat} {k : Int32} {lo hi su on : Int64} (h : FP L g) : FP L (va_up g a (.inr (1, [.int k, .long lo, .long hi, .long su, .long on]))) := fun b hb => by
  by_cases e : b = a
  · exact ⟨k, lo, hi, su, on, by rw [e, va_up_self]⟩
  · obtain ⟨k', lo', hi', su', on', e'⟩ := h b hb
    exact ⟨k', lo', hi', su', on', by rw [va_up_ne _ _ e]; exact e'⟩
section FACTS
variable {p : Program} {l : Launch} {e : Env} {R : Room} {s : State} {m : MethodId} {args : Array Value} {below : List Frame} {meth : Method} {c : Code} {H H0 : Heap} {locs : List Loc} {cells slots : Nat} {Q : State → Prop} {A : Nat → Prop}
variable {D : va_G} {ct : Nat → ClassId} {X : va_W} {own host : String} {index pc : Nat} {cc : ByteArray} {rest : List Value} {ls : Array Slot} {L : List Nat} {g : Nat → va_E} {a : Nat}
theorem fp_get0 (hx : p.tables.exec = Jvm.exec) (hb : c.code = cc) (hn : nwOK s) (hown : s.vm.findClass own = some m.cls) (hK : va_K D vwCl (TY ct) s) (hP : va_P D vwCl (X ++ va_pl L g) H) (hf : FP L g) (ha : a ∈ L) (hl : Cond.fieldLink own index RX1 "kind" "I" ∈ lw_tbl) (hdg : decode cc pc = .ok (.getfield index, 3))
    (kk : ∀ x : Int32, W p l e R s m args below meth c H locs cells slots Q (F0 m (pc + 3) ls (.int x :: rest))) : W p l e R s m args below meth c H locs cells slots Q (F0 m pc ls (.ref a :: rest)) := by
  obtain ⟨k, lo, hi, su, on, he⟩ := hf a ha
  obtain ⟨j, hj⟩ := va_pl_get (X := X) (f := g) ha
  rw [he] at hj
  exact va_get (D := D) (ci := 1) (v := .int k) (C := RX1) (T := TX1) (N := 5) hx hb (htX1 hn) (fun _ h => h) hown hK hP j hj rfl 0 (by decide) (hn.get hl rfl) (fun _ h9 => h9) rfl hdg (kk k)
theorem fp_put0 (hx : p.tables.exec = Jvm.exec) (hb : c.code = cc) (hn : nwOK s) (hown : s.vm.findClass own = some m.cls) (hK : va_K D vwCl (TY ct) s) (hP : va_P D vwCl (X ++ va_pl L g) H) (hD : va_D A (X ++ va_pl L g)) (hS : va_S A H0 H locs) (hf : FP L g) (ha : a ∈ L) (hl : Cond.fieldLink own index RX1 "kind" "I" ∈ lw_tbl) {x : Int32} (hdg : decode cc pc = .ok (.putfield index, 3))
    (kk : ∀ (g1 : Nat → va_E) (H1 : Heap) (locs1 : List Loc), FP L g1 → va_P D vwCl (X ++ va_pl L g1) H1 → va_D A (X ++ va_pl L g1) → va_S A H0 H1 locs1 → W p l e R s m args below meth c H1 locs1 cells slots Q (F0 m (pc + 3) ls rest)) : W p l e R s m args below meth c H locs cells slots Q (F0 m pc ls (.int x :: .ref a :: rest)) := by
  obtain ⟨k, lo, hi, su, on, he⟩ := hf a ha
  obtain ⟨j, hj⟩ := va_pl_get (X := X) (f := g) ha
  have hj0 := hj
  rw [he] at hj
  refine va_put (D := D) (ci := 1) (v := .int x) (ty := .int) (C := RX1) (T := TX1) (N := 5) hx hb (htX1 hn) (fun _ h => h) tyX1 tyX1_ok nmX1 hown hK hP hD hS j hj rfl 0 (by decide) (hn.get hl rfl) (fun _ h9 => h9) rfl (by decide +kernel) rfl rfl (Nat.le_of_ble_eq_true rfl) hdg (fun H1 locs1 hP1 hD1 hS1 => ?_)
  have e2 : (X ++ va_pl L g).set j (a, .inr (1, ([.int k, .long lo, .long hi, .long su, .long on] : List Value).set 0 (.int x))) = X ++ va_pl L (va_up g a (.inr (1, [.int x, .long lo, .long hi, .long su, .long on]))) := va_pl_set hD ha hj0
  rw [e2] at hP1 hD1
  exact kk _ H1 locs1 hf.up hP1 hD1 hS1
theorem fp_get0N (hx : p.tables.exec = Jvm.exec) (hb : c.code = cc) (hn : nwOK s) (hown : s.vm.findClass own = some m.cls) (hK : va_K D vwCl (TY ct) s) (hP : va_P D vwCl (X ++ va_pl L g) H) (hf : FP L g) (ha : a ∈ L) (hl : Cond.fieldLinkNest own index RX1 "kind" "I" host ∈ lw_tbl) (hdg : decode cc pc = .ok (.getfield index, 3))
    (kk : ∀ x : Int32, W p l e R s m args below meth c H locs cells slots Q (F0 m (pc + 3) ls (.int x :: rest))) : W p l e R s m args below meth c H locs cells slots Q (F0 m pc ls (.ref a :: rest)) := by
  obtain ⟨k, lo, hi, su, on, he⟩ := hf a ha
  obtain ⟨j, hj⟩ := va_pl_get (X := X) (f := g) ha
  rw [he] at hj
  exact va_getN (D := D) (ci := 1) (v := .int k) (C := RX1) (T := TX1) (N := 5) hx hb (htX1 hn) (fun _ h => h) hown hK hP j hj rfl 0 (by decide) (hn.get hl rfl) (fun _ h9 => h9) rfl hdg (kk k)
theorem fp_put0N (hx : p.tables.exec = Jvm.exec) (hb : c.code = cc) (hn : nwOK s) (hown : s.vm.findClass own = some m.cls) (hK : va_K D vwCl (TY ct) s) (hP : va_P D vwCl (X ++ va_pl L g) H) (hD : va_D A (X ++ va_pl L g)) (hS : va_S A H0 H locs) (hf : FP L g) (ha : a ∈ L) (hl : Cond.fieldLinkNest own index RX1 "kind" "I" host ∈ lw_tbl) {x : Int32} (hdg : decode cc pc = .ok (.putfield index, 3))
    (kk : ∀ (g1 : Nat → va_E) (H1 : Heap) (locs1 : List Loc), FP L g1 → va_P D vwCl (X ++ va_pl L g1) H1 → va_D A (X ++ va_pl L g1) → va_S A H0 H1 locs1 → W p l e R s m args below meth c H1 locs1 cells slots Q (F0 m (pc + 3) ls rest)) : W p l e R s m args below meth c H locs cells slots Q (F0 m pc ls (.int x :: .ref a :: rest)) := by
  obtain ⟨k, lo, hi, su, on, he⟩ := hf a ha
  obtain ⟨j, hj⟩ := va_pl_get (X := X) (f := g) ha
  have hj0 := hj
  rw [he] at hj
  refine va_putN (D := D) (ci := 1) (v := .int x) (ty := .int) (C := RX1) (T := TX1) (N := 5) hx hb (htX1 hn) (fun _ h => h) tyX1 tyX1_ok nmX1 hown hK hP hD hS j hj rfl 0 (by decide) (hn.get hl rfl) (fun _ h9 => h9) rfl (by decide +kernel) rfl rfl (Nat.le_of_ble_eq_true rfl) hdg (fun H1 locs1 hP1 hD1 hS1 => ?_)
  have e2 : (X ++ va_pl L g).set j (a, .inr (1, ([.int k, .long lo, .long hi, .long su, .long on] : List Value).set 0 (.int x))) = X ++ va_pl L (va_up g a (.inr (1, [.int x, .long lo, .long hi, .long su, .long on]))) := va_pl_set hD ha hj0
  rw [e2] at hP1 hD1
  exact kk _ H1 locs1 hf.up hP1 hD1 hS1
theorem fp_get1 (hx : p.tables.exec = Jvm.exec) (hb : c.code = cc) (hn : nwOK s) (hown : s.vm.findClass own = some m.cls) (hK : va_K D vwCl (TY ct) s) (hP : va_P D vwCl (X ++ va_pl L g) H) (hf : FP L g) (ha : a ∈ L) (hl : Cond.fieldLink own index RX1 "low" "J" ∈ lw_tbl) (hdg : decode cc pc = .ok (.getfield index, 3))
    (kk : ∀ x : Int64, W p l e R s m args below meth c H locs cells slots Q (F0 m (pc + 3) ls (.long x :: rest))) : W p l e R s m args below meth c H locs cells slots Q (F0 m pc ls (.ref a :: rest)) := by
  obtain ⟨k, lo, hi, su, on, he⟩ := hf a ha
  obtain ⟨j, hj⟩ := va_pl_get (X := X) (f := g) ha
  rw [he] at hj
  exact va_get (D := D) (ci := 1) (v := .long lo) (C := RX1) (T := TX1) (N := 5) hx hb (htX1 hn) (fun _ h => h) hown hK hP j hj rfl 1 (by decide) (hn.get hl rfl) (fun _ h9 => h9) rfl hdg (kk lo)
theorem fp_put1 (hx : p.tables.exec = Jvm.exec) (hb : c.code = cc) (hn : nwOK s) (hown : s.vm.findClass own = some m.cls) (hK : va_K D vwCl (TY ct) s) (hP : va_P D vwCl (X ++ va_pl L g) H) (hD : va_D A (X ++ va_pl L g)) (hS : va_S A H0 H locs) (hf : FP L g) (ha : a ∈ L) (hl : Cond.fieldLink own index RX1 "low" "J" ∈ lw_tbl) {x : Int64} (hdg : decode cc pc = .ok (.putfield index, 3))
    (kk : ∀ (g1 : Nat → va_E) (H1 : Heap) (locs1 : List Loc), FP L g1 → va_P D vwCl (X ++ va_pl L g1) H1 → va_D A (X ++ va_pl L g1) → va_S A H0 H1 locs1 → W p l e R s m args below meth c H1 locs1 cells slots Q (F0 m (pc + 3) ls rest)) : W p l e R s m args below meth c H locs cells slots Q (F0 m pc ls (.long x :: .ref a :: rest)) := by
  obtain ⟨k, lo, hi, su, on, he⟩ := hf a ha
  obtain ⟨j, hj⟩ := va_pl_get (X := X) (f := g) ha
  have hj0 := hj
  rw [he] at hj
  refine va_put (D := D) (ci := 1) (v := .long x) (ty := .long) (C := RX1) (T := TX1) (N := 5) hx hb (htX1 hn) (fun _ h => h) tyX1 tyX1_ok nmX1 hown hK hP hD hS j hj rfl 1 (by decide) (hn.get hl rfl) (fun _ h9 => h9) rfl (by decide +kernel) rfl rfl (Nat.le_of_ble_eq_true rfl) hdg (fun H1 locs1 hP1 hD1 hS1 => ?_)
  have e2 : (X ++ va_pl L g).set j (a, .inr (1, ([.int k, .long lo, .long hi, .long su, .long on] : List Value).set 1 (.long x))) = X ++ va_pl L (va_up g a (.inr (1, [.int k, .long x, .long hi, .long su, .long on]))) := va_pl_set hD ha hj0
  rw [e2] at hP1 hD1
  exact kk _ H1 locs1 hf.up hP1 hD1 hS1
theorem fp_get1N (hx : p.tables.exec = Jvm.exec) (hb : c.code = cc) (hn : nwOK s) (hown : s.vm.findClass own = some m.cls) (hK : va_K D vwCl (TY ct) s) (hP : va_P D vwCl (X ++ va_pl L g) H) (hf : FP L g) (ha : a ∈ L) (hl : Cond.fieldLinkNest own index RX1 "low" "J" host ∈ lw_tbl) (hdg : decode cc pc = .ok (.getfield index, 3))
    (kk : ∀ x : Int64, W p l e R s m args below meth c H locs cells slots Q (F0 m (pc + 3) ls (.long x :: rest))) : W p l e R s m args below meth c H locs cells slots Q (F0 m pc ls (.ref a :: rest)) := by
  obtain ⟨k, lo, hi, su, on, he⟩ := hf a ha
  obtain ⟨j, hj⟩ := va_pl_get (X := X) (f := g) ha
  rw [he] at hj
  exact va_getN (D := D) (ci := 1) (v := .long lo) (C := RX1) (T := TX1) (N := 5) hx hb (htX1 hn) (fun _ h => h) hown hK hP j hj rfl 1 (by decide) (hn.get hl rfl) (fun _ h9 => h9) rfl hdg (kk lo)
theorem fp_put1N (hx : p.tables.exec = Jvm.exec) (hb : c.code = cc) (hn : nwOK s) (hown : s.vm.findClass own = some m.cls) (hK : va_K D vwCl (TY ct) s) (hP : va_P D vwCl (X ++ va_pl L g) H) (hD : va_D A (X ++ va_pl L g)) (hS : va_S A H0 H locs) (hf : FP L g) (ha : a ∈ L) (hl : Cond.fieldLinkNest own index RX1 "low" "J" host ∈ lw_tbl) {x : Int64} (hdg : decode cc pc = .ok (.putfield index, 3))
    (kk : ∀ (g1 : Nat → va_E) (H1 : Heap) (locs1 : List Loc), FP L g1 → va_P D vwCl (X ++ va_pl L g1) H1 → va_D A (X ++ va_pl L g1) → va_S A H0 H1 locs1 → W p l e R s m args below meth c H1 locs1 cells slots Q (F0 m (pc + 3) ls rest)) : W p l e R s m args below meth c H locs cells slots Q (F0 m pc ls (.long x :: .ref a :: rest)) := by
  obtain ⟨k, lo, hi, su, on, he⟩ := hf a ha
  obtain ⟨j, hj⟩ := va_pl_get (X := X) (f := g) ha
  have hj0 := hj
  rw [he] at hj
  refine va_putN (D := D) (ci := 1) (v := .long x) (ty := .long) (C := RX1) (T := TX1) (N := 5) hx hb (htX1 hn) (fun _ h => h) tyX1 tyX1_ok nmX1 hown hK hP hD hS j hj rfl 1 (by decide) (hn.get hl rfl) (fun _ h9 => h9) rfl (by decide +kernel) rfl rfl (Nat.le_of_ble_eq_true rfl) hdg (fun H1 locs1 hP1 hD1 hS1 => ?_)
  have e2 : (X ++ va_pl L g).set j (a, .inr (1, ([.int k, .long lo, .long hi, .long su, .long on] : List Value).set 1 (.long x))) = X ++ va_pl L (va_up g a (.inr (1, [.int k, .long x, .long hi, .long su, .long on]))) := va_pl_set hD ha hj0
  rw [e2] at hP1 hD1
  exact kk _ H1 locs1 hf.up hP1 hD1 hS1
theorem fp_get2 (hx : p.tables.exec = Jvm.exec) (hb : c.code = cc) (hn : nwOK s) (hown : s.vm.findClass own = some m.cls) (hK : va_K D vwCl (TY ct) s) (hP : va_P D vwCl (X ++ va_pl L g) H) (hf : FP L g) (ha : a ∈ L) (hl : Cond.fieldLink own index RX1 "high" "J" ∈ lw_tbl) (hdg : decode cc pc = .ok (.getfield index, 3))
    (kk : ∀ x : Int64, W p l e R s m args below meth c H locs cells slots Q (F0 m (pc + 3) ls (.long x :: rest))) : W p l e R s m args below meth c H locs cells slots Q (F0 m pc ls (.ref a :: rest)) := by
  obtain ⟨k, lo, hi, su, on, he⟩ := hf a ha
  obtain ⟨j, hj⟩ := va_pl_get (X := X) (f := g) ha
  rw [he] at hj
  exact va_get (D := D) (ci := 1) (v := .long hi) (C := RX1) (T := TX1) (N := 5) hx hb (htX1 hn) (fun _ h => h) hown hK hP j hj rfl 2 (by decide) (hn.get hl rfl) (fun _ h9 => h9) rfl hdg (kk hi)
theorem fp_put2 (hx : p.tables.exec = Jvm.exec) (hb : c.code = cc) (hn : nwOK s) (hown : s.vm.findClass own = some m.cls) (hK : va_K D vwCl (TY ct) s) (hP : va_P D vwCl (X ++ va_pl L g) H) (hD : va_D A (X ++ va_pl L g)) (hS : va_S A H0 H locs) (hf : FP L g) (ha : a ∈ L) (hl : Cond.fieldLink own index RX1 "high" "J" ∈ lw_tbl) {x : Int64} (hdg : decode cc pc = .ok (.putfield index, 3))
    (kk : ∀ (g1 : Nat → va_E) (H1 : Heap) (locs1 : List Loc), FP L g1 → va_P D vwCl (X ++ va_pl L g1) H1 → va_D A (X ++ va_pl L g1) → va_S A H0 H1 locs1 → W p l e R s m args below meth c H1 locs1 cells slots Q (F0 m (pc + 3) ls rest)) : W p l e R s m args below meth c H locs cells slots Q (F0 m pc ls (.long x :: .ref a :: rest)) := by
  obtain ⟨k, lo, hi, su, on, he⟩ := hf a ha
  obtain ⟨j, hj⟩ := va_pl_get (X := X) (f := g) ha
  have hj0 := hj
  rw [he] at hj
  refine va_put (D := D) (ci := 1) (v := .long x) (ty := .long) (C := RX1) (T := TX1) (N := 5) hx hb (htX1 hn) (fun _ h => h) tyX1 tyX1_ok nmX1 hown hK hP hD hS j hj rfl 2 (by decide) (hn.get hl rfl) (fun _ h9 => h9) rfl (by decide +kernel) rfl rfl (Nat.le_of_ble_eq_true rfl) hdg (fun H1 locs1 hP1 hD1 hS1 => ?_)
  have e2 : (X ++ va_pl L g).set j (a, .inr (1, ([.int k, .long lo, .long hi, .long su, .long on] : List Value).set 2 (.long x))) = X ++ va_pl L (va_up g a (.inr (1, [.int k, .long lo, .long x, .long su, .long on]))) := va_pl_set hD ha hj0
  rw [e2] at hP1 hD1
  exact kk _ H1 locs1 hf.up hP1 hD1 hS1
theorem fp_get2N (hx : p.tables.exec = Jvm.exec) (hb : c.code = cc) (hn : nwOK s) (hown : s.vm.findClass own = some m.cls) (hK : va_K D vwCl (TY ct) s) (hP : va_P D vwCl (X ++ va_pl L g) H) (hf : FP L g) (ha : a ∈ L) (hl : Cond.fieldLinkNest own index RX1 "high" "J" host ∈ lw_tbl) (hdg : decode cc pc = .ok (.getfield index, 3))
    (kk : ∀ x : Int64, W p l e R s m args below meth c H locs cells slots Q (F0 m (pc + 3) ls (.long x :: rest))) : W p l e R s m args below meth c H locs cells slots Q (F0 m pc ls (.ref a :: rest)) := by
  obtain ⟨k, lo, hi, su, on, he⟩ := hf a ha
  obtain ⟨j, hj⟩ := va_pl_get (X := X) (f := g) ha
  rw [he] at hj
  exact va_getN (D := D) (ci := 1) (v := .long hi) (C := RX1) (T := TX1) (N := 5) hx hb (htX1 hn) (fun _ h => h) hown hK hP j hj rfl 2 (by decide) (hn.get hl rfl) (fun _ h9 => h9) rfl hdg (kk hi)
theorem fp_put2N (hx : p.tables.exec = Jvm.exec) (hb : c.code = cc) (hn : nwOK s) (hown : s.vm.findClass own = some m.cls) (hK : va_K D vwCl (TY ct) s) (hP : va_P D vwCl (X ++ va_pl L g) H) (hD : va_D A (X ++ va_pl L g)) (hS : va_S A H0 H locs) (hf : FP L g) (ha : a ∈ L) (hl : Cond.fieldLinkNest own index RX1 "high" "J" host ∈ lw_tbl) {x : Int64} (hdg : decode cc pc = .ok (.putfield index, 3))
    (kk : ∀ (g1 : Nat → va_E) (H1 : Heap) (locs1 : List Loc), FP L g1 → va_P D vwCl (X ++ va_pl L g1) H1 → va_D A (X ++ va_pl L g1) → va_S A H0 H1 locs1 → W p l e R s m args below meth c H1 locs1 cells slots Q (F0 m (pc + 3) ls rest)) : W p l e R s m args below meth c H locs cells slots Q (F0 m pc ls (.long x :: .ref a :: rest)) := by
  obtain ⟨k, lo, hi, su, on, he⟩ := hf a ha
  obtain ⟨j, hj⟩ := va_pl_get (X := X) (f := g) ha
  have hj0 := hj
  rw [he] at hj
  refine va_putN (D := D) (ci := 1) (v := .long x) (ty := .long) (C := RX1) (T := TX1) (N := 5) hx hb (htX1 hn) (fun _ h => h) tyX1 tyX1_ok nmX1 hown hK hP hD hS j hj rfl 2 (by decide) (hn.get hl rfl) (fun _ h9 => h9) rfl (by decide +kernel) rfl rfl (Nat.le_of_ble_eq_true rfl) hdg (fun H1 locs1 hP1 hD1 hS1 => ?_)
  have e2 : (X ++ va_pl L g).set j (a, .inr (1, ([.int k, .long lo, .long hi, .long su, .long on] : List Value).set 2 (.long x))) = X ++ va_pl L (va_up g a (.inr (1, [.int k, .long lo, .long x, .long su, .long on]))) := va_pl_set hD ha hj0
  rw [e2] at hP1 hD1
  exact kk _ H1 locs1 hf.up hP1 hD1 hS1
theorem fp_get3 (hx : p.tables.exec = Jvm.exec) (hb : c.code = cc) (hn : nwOK s) (hown : s.vm.findClass own = some m.cls) (hK : va_K D vwCl (TY ct) s) (hP : va_P D vwCl (X ++ va_pl L g) H) (hf : FP L g) (ha : a ∈ L) (hl : Cond.fieldLink own index RX1 "sure" "J" ∈ lw_tbl) (hdg : decode cc pc = .ok (.getfield index, 3))
    (kk : ∀ x : Int64, W p l e R s m args below meth c H locs cells slots Q (F0 m (pc + 3) ls (.long x :: rest))) : W p l e R s m args below meth c H locs cells slots Q (F0 m pc ls (.ref a :: rest)) := by
  obtain ⟨k, lo, hi, su, on, he⟩ := hf a ha
  obtain ⟨j, hj⟩ := va_pl_get (X := X) (f := g) ha
  rw [he] at hj
  exact va_get (D := D) (ci := 1) (v := .long su) (C := RX1) (T := TX1) (N := 5) hx hb (htX1 hn) (fun _ h => h) hown hK hP j hj rfl 3 (by decide) (hn.get hl rfl) (fun _ h9 => h9) rfl hdg (kk su)
theorem fp_put3 (hx : p.tables.exec = Jvm.exec) (hb : c.code = cc) (hn : nwOK s) (hown : s.vm.findClass own = some m.cls) (hK : va_K D vwCl (TY ct) s) (hP : va_P D vwCl (X ++ va_pl L g) H) (hD : va_D A (X ++ va_pl L g)) (hS : va_S A H0 H locs) (hf : FP L g) (ha : a ∈ L) (hl : Cond.fieldLink own index RX1 "sure" "J" ∈ lw_tbl) {x : Int64} (hdg : decode cc pc = .ok (.putfield index, 3))
    (kk : ∀ (g1 : Nat → va_E) (H1 : Heap) (locs1 : List Loc), FP L g1 → va_P D vwCl (X ++ va_pl L g1) H1 → va_D A (X ++ va_pl L g1) → va_S A H0 H1 locs1 → W p l e R s m args below meth c H1 locs1 cells slots Q (F0 m (pc + 3) ls rest)) : W p l e R s m args below meth c H locs cells slots Q (F0 m pc ls (.long x :: .ref a :: rest)) := by
  obtain ⟨k, lo, hi, su, on, he⟩ := hf a ha
  obtain ⟨j, hj⟩ := va_pl_get (X := X) (f := g) ha
  have hj0 := hj
  rw [he] at hj
  refine va_put (D := D) (ci := 1) (v := .long x) (ty := .long) (C := RX1) (T := TX1) (N := 5) hx hb (htX1 hn) (fun _ h => h) tyX1 tyX1_ok nmX1 hown hK hP hD hS j hj rfl 3 (by decide) (hn.get hl rfl) (fun _ h9 => h9) rfl (by decide +kernel) rfl rfl (Nat.le_of_ble_eq_true rfl) hdg (fun H1 locs1 hP1 hD1 hS1 => ?_)
  have e2 : (X ++ va_pl L g).set j (a, .inr (1, ([.int k, .long lo, .long hi, .long su, .long on] : List Value).set 3 (.long x))) = X ++ va_pl L (va_up g a (.inr (1, [.int k, .long lo, .long hi, .long x, .long on]))) := va_pl_set hD ha hj0
  rw [e2] at hP1 hD1
  exact kk _ H1 locs1 hf.up hP1 hD1 hS1
theorem fp_get3N (hx : p.tables.exec = Jvm.exec) (hb : c.code = cc) (hn : nwOK s) (hown : s.vm.findClass own = some m.cls) (hK : va_K D vwCl (TY ct) s) (hP : va_P D vwCl (X ++ va_pl L g) H) (hf : FP L g) (ha : a ∈ L) (hl : Cond.fieldLinkNest own index RX1 "sure" "J" host ∈ lw_tbl) (hdg : decode cc pc = .ok (.getfield index, 3))
    (kk : ∀ x : Int64, W p l e R s m args below meth c H locs cells slots Q (F0 m (pc + 3) ls (.long x :: rest))) : W p l e R s m args below meth c H locs cells slots Q (F0 m pc ls (.ref a :: rest)) := by
  obtain ⟨k, lo, hi, su, on, he⟩ := hf a ha
  obtain ⟨j, hj⟩ := va_pl_get (X := X) (f := g) ha
  rw [he] at hj
  exact va_getN (D := D) (ci := 1) (v := .long su) (C := RX1) (T := TX1) (N := 5) hx hb (htX1 hn) (fun _ h => h) hown hK hP j hj rfl 3 (by decide) (hn.get hl rfl) (fun _ h9 => h9) rfl hdg (kk su)
theorem fp_put3N (hx : p.tables.exec = Jvm.exec) (hb : c.code = cc) (hn : nwOK s) (hown : s.vm.findClass own = some m.cls) (hK : va_K D vwCl (TY ct) s) (hP : va_P D vwCl (X ++ va_pl L g) H) (hD : va_D A (X ++ va_pl L g)) (hS : va_S A H0 H locs) (hf : FP L g) (ha : a ∈ L) (hl : Cond.fieldLinkNest own index RX1 "sure" "J" host ∈ lw_tbl) {x : Int64} (hdg : decode cc pc = .ok (.putfield index, 3))
    (kk : ∀ (g1 : Nat → va_E) (H1 : Heap) (locs1 : List Loc), FP L g1 → va_P D vwCl (X ++ va_pl L g1) H1 → va_D A (X ++ va_pl L g1) → va_S A H0 H1 locs1 → W p l e R s m args below meth c H1 locs1 cells slots Q (F0 m (pc + 3) ls rest)) : W p l e R s m args below meth c H locs cells slots Q (F0 m pc ls (.long x :: .ref a :: rest)) := by
  obtain ⟨k, lo, hi, su, on, he⟩ := hf a ha
  obtain ⟨j, hj⟩ := va_pl_get (X := X) (f := g) ha
  have hj0 := hj
  rw [he] at hj
  refine va_putN (D := D) (ci := 1) (v := .long x) (ty := .long) (C := RX1) (T := TX1) (N := 5) hx hb (htX1 hn) (fun _ h => h) tyX1 tyX1_ok nmX1 hown hK hP hD hS j hj rfl 3 (by decide) (hn.get hl rfl) (fun _ h9 => h9) rfl (by decide +kernel) rfl rfl (Nat.le_of_ble_eq_true rfl) hdg (fun H1 locs1 hP1 hD1 hS1 => ?_)
  have e2 : (X ++ va_pl L g).set j (a, .inr (1, ([.int k, .long lo, .long hi, .long su, .long on] : List Value).set 3 (.long x))) = X ++ va_pl L (va_up g a (.inr (1, [.int k, .long lo, .long hi, .long x, .long on]))) := va_pl_set hD ha hj0
  rw [e2] at hP1 hD1
  exact kk _ H1 locs1 hf.up hP1 hD1 hS1
theorem fp_get4 (hx : p.tables.exec = Jvm.exec) (hb : c.code = cc) (hn : nwOK s) (hown : s.vm.findClass own = some m.cls) (hK : va_K D vwCl (TY ct) s) (hP : va_P D vwCl (X ++ va_pl L g) H) (hf : FP L g) (ha : a ∈ L) (hl : Cond.fieldLink own index RX1 "ones" "J" ∈ lw_tbl) (hdg : decode cc pc = .ok (.getfield index, 3))
    (kk : ∀ x : Int64, W p l e R s m args below meth c H locs cells slots Q (F0 m (pc + 3) ls (.long x :: rest))) : W p l e R s m args below meth c H locs cells slots Q (F0 m pc ls (.ref a :: rest)) := by
  obtain ⟨k, lo, hi, su, on, he⟩ := hf a ha
  obtain ⟨j, hj⟩ := va_pl_get (X := X) (f := g) ha
  rw [he] at hj
  exact va_get (D := D) (ci := 1) (v := .long on) (C := RX1) (T := TX1) (N := 5) hx hb (htX1 hn) (fun _ h => h) hown hK hP j hj rfl 4 (by decide) (hn.get hl rfl) (fun _ h9 => h9) rfl hdg (kk on)
theorem fp_put4 (hx : p.tables.exec = Jvm.exec) (hb : c.code = cc) (hn : nwOK s) (hown : s.vm.findClass own = some m.cls) (hK : va_K D vwCl (TY ct) s) (hP : va_P D vwCl (X ++ va_pl L g) H) (hD : va_D A (X ++ va_pl L g)) (hS : va_S A H0 H locs) (hf : FP L g) (ha : a ∈ L) (hl : Cond.fieldLink own index RX1 "ones" "J" ∈ lw_tbl) {x : Int64} (hdg : decode cc pc = .ok (.putfield index, 3))
    (kk : ∀ (g1 : Nat → va_E) (H1 : Heap) (locs1 : List Loc), FP L g1 → va_P D vwCl (X ++ va_pl L g1) H1 → va_D A (X ++ va_pl L g1) → va_S A H0 H1 locs1 → W p l e R s m args below meth c H1 locs1 cells slots Q (F0 m (pc + 3) ls rest)) : W p l e R s m args below meth c H locs cells slots Q (F0 m pc ls (.long x :: .ref a :: rest)) := by
  obtain ⟨k, lo, hi, su, on, he⟩ := hf a ha
  obtain ⟨j, hj⟩ := va_pl_get (X := X) (f := g) ha
  have hj0 := hj
  rw [he] at hj
  refine va_put (D := D) (ci := 1) (v := .long x) (ty := .long) (C := RX1) (T := TX1) (N := 5) hx hb (htX1 hn) (fun _ h => h) tyX1 tyX1_ok nmX1 hown hK hP hD hS j hj rfl 4 (by decide) (hn.get hl rfl) (fun _ h9 => h9) rfl (by decide +kernel) rfl rfl (Nat.le_of_ble_eq_true rfl) hdg (fun H1 locs1 hP1 hD1 hS1 => ?_)
  have e2 : (X ++ va_pl L g).set j (a, .inr (1, ([.int k, .long lo, .long hi, .long su, .long on] : List Value).set 4 (.long x))) = X ++ va_pl L (va_up g a (.inr (1, [.int k, .long lo, .long hi, .long su, .long x]))) := va_pl_set hD ha hj0
  rw [e2] at hP1 hD1
  exact kk _ H1 locs1 hf.up hP1 hD1 hS1
theorem fp_get4N (hx : p.tables.exec = Jvm.exec) (hb : c.code = cc) (hn : nwOK s) (hown : s.vm.findClass own = some m.cls) (hK : va_K D vwCl (TY ct) s) (hP : va_P D vwCl (X ++ va_pl L g) H) (hf : FP L g) (ha : a ∈ L) (hl : Cond.fieldLinkNest own index RX1 "ones" "J" host ∈ lw_tbl) (hdg : decode cc pc = .ok (.getfield index, 3))
    (kk : ∀ x : Int64, W p l e R s m args below meth c H locs cells slots Q (F0 m (pc + 3) ls (.long x :: rest))) : W p l e R s m args below meth c H locs cells slots Q (F0 m pc ls (.ref a :: rest)) := by
  obtain ⟨k, lo, hi, su, on, he⟩ := hf a ha
  obtain ⟨j, hj⟩ := va_pl_get (X := X) (f := g) ha
  rw [he] at hj
  exact va_getN (D := D) (ci := 1) (v := .long on) (C := RX1) (T := TX1) (N := 5) hx hb (htX1 hn) (fun _ h => h) hown hK hP j hj rfl 4 (by decide) (hn.get hl rfl) (fun _ h9 => h9) rfl hdg (kk on)
theorem fp_put4N (hx : p.tables.exec = Jvm.exec) (hb : c.code = cc) (hn : nwOK s) (hown : s.vm.findClass own = some m.cls) (hK : va_K D vwCl (TY ct) s) (hP : va_P D vwCl (X ++ va_pl L g) H) (hD : va_D A (X ++ va_pl L g)) (hS : va_S A H0 H locs) (hf : FP L g) (ha : a ∈ L) (hl : Cond.fieldLinkNest own index RX1 "ones" "J" host ∈ lw_tbl) {x : Int64} (hdg : decode cc pc = .ok (.putfield index, 3))
    (kk : ∀ (g1 : Nat → va_E) (H1 : Heap) (locs1 : List Loc), FP L g1 → va_P D vwCl (X ++ va_pl L g1) H1 → va_D A (X ++ va_pl L g1) → va_S A H0 H1 locs1 → W p l e R s m args below meth c H1 locs1 cells slots Q (F0 m (pc + 3) ls rest)) : W p l e R s m args below meth c H locs cells slots Q (F0 m pc ls (.long x :: .ref a :: rest)) := by
  obtain ⟨k, lo, hi, su, on, he⟩ := hf a ha
  obtain ⟨j, hj⟩ := va_pl_get (X := X) (f := g) ha
  have hj0 := hj
  rw [he] at hj
  refine va_putN (D := D) (ci := 1) (v := .long x) (ty := .long) (C := RX1) (T := TX1) (N := 5) hx hb (htX1 hn) (fun _ h => h) tyX1 tyX1_ok nmX1 hown hK hP hD hS j hj rfl 4 (by decide) (hn.get hl rfl) (fun _ h9 => h9) rfl (by decide +kernel) rfl rfl (Nat.le_of_ble_eq_true rfl) hdg (fun H1 locs1 hP1 hD1 hS1 => ?_)
  have e2 : (X ++ va_pl L g).set j (a, .inr (1, ([.int k, .long lo, .long hi, .long su, .long on] : List Value).set 4 (.long x))) = X ++ va_pl L (va_up g a (.inr (1, [.int k, .long lo, .long hi, .long su, .long x]))) := va_pl_set hD ha hj0
  rw [e2] at hP1 hD1
  exact kk _ H1 locs1 hf.up hP1 hD1 hS1
/-- the array of Facts -/
def NW (n : Nat) (f : Nat → Option Nat) (L : List Nat) : Prop := ∀ i, i < n → ∃ a, f i = some a ∧ a ∈ L
theorem nw_ald {n q0 : Nat} {f : Nat → Option Nat} {ws : va_W} {b : Nat} {i : Int32} (hx : p.tables.exec = Jvm.exec) (hb : c.code = cc) (hK : va_K D vwCl (TY ct) s) (hP : va_P D vwCl ws H) (h : NW n f L) (ha : ws[q0]? = some (b, .inl (ct 4, n, .inr (.inr (.inr (.inr f)))))) (hin : vp_in i n) (hdg : decode cc pc = .ok (.aaload, 1))
    (kk : ∀ a, a ∈ L → W p l e R s m args below meth c H locs cells slots Q (F0 m (pc + 1) ls (.ref a :: rest))) : W p l e R s m args below meth c H locs cells slots Q (F0 m pc ls (.int i :: .ref b :: rest)) := by
  obtain ⟨a, e1, e2⟩ := h i.toNatClampNeg (in_lt hin)
  refine va_aldq hx hb hK hP q0 4 ha rfl hin hdg ?_
  rw [e1]
  exact kk a e2
end FACTS
