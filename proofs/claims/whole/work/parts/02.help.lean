/-! helpers over the kit's rows: numbers by nI, read-only calls, worlds -/
/-! numbers by nI -/
theorem zz_sl : ∀ n, n < 32 → ((nI n &&& 31).toBitVec.smod 32).toNat = n := by decide +kernel
theorem zz_and (a b : Nat) : nI a &&& nI b = nI (a &&& b) := by
  apply Int32.toBitVec_inj.1
  show BitVec.ofNat 32 a &&& BitVec.ofNat 32 b = BitVec.ofNat 32 (a &&& b)
  apply BitVec.eq_of_getLsbD_eq
  intro i hi
  simp [hi]
theorem zz_or (a b : Nat) : nI a ||| nI b = nI (a ||| b) := by
  apply Int32.toBitVec_inj.1
  show BitVec.ofNat 32 a ||| BitVec.ofNat 32 b = BitVec.ofNat 32 (a ||| b)
  apply BitVec.eq_of_getLsbD_eq
  intro i hi
  simp [hi]
theorem zz_xor (a b : Nat) : nI a ^^^ nI b = nI (a ^^^ b) := by
  apply Int32.toBitVec_inj.1
  show BitVec.ofNat 32 a ^^^ BitVec.ofNat 32 b = BitVec.ofNat 32 (a ^^^ b)
  apply BitVec.eq_of_getLsbD_eq
  intro i hi
  simp [hi]
theorem zz_shl {a k : Nat} (hk : k < 32) (h : a * 2 ^ k < 2 ^ 32) : nI a <<< (nI k &&& 31) = nI (a * 2 ^ k) := pk_shlN _ k (zz_sl k hk) h
theorem zz_shr {a k : Nat} (hk : k < 32) (h : a < 2 ^ 31) : nI a >>> (nI k &&& 31) = nI (a / 2 ^ k) := pk_shrN h _ k (zz_sl k hk)
theorem zz_lt {a b : Nat} (ha : a < 2 ^ 31) (hb : b < 2 ^ 31) : (nI a < nI b) = (a < b) := propext (nI_ltI ha hb)
theorem zz_le {a b : Nat} (ha : a < 2 ^ 31) (hb : b < 2 ^ 31) : (nI a ≤ nI b) = (a ≤ b) := propext (nI_leI ha hb)
theorem zz_eq {a b : Nat} (ha : a < 2 ^ 31) (hb : b < 2 ^ 31) : (nI a = nI b) = (a = b) := propext (nI_eq ha hb)
theorem zz_eq0 {a : Nat} (ha : a < 2 ^ 31) : (nI a = 0) = (a = 0) := zz_eq (b := 0) ha (by decide)
theorem zz_lt0 {a : Nat} (ha : a < 2 ^ 31) : (nI a < 0) = (a < 0) := zz_lt (b := 0) ha (by decide)
theorem zz_ge0 {a : Nat} (ha : a < 2 ^ 31) : ((0 : Int32) ≤ nI a) = (0 ≤ a) := zz_le (a := 0) (by decide) ha
theorem zz_gt0 {a : Nat} (ha : a < 2 ^ 31) : ((0 : Int32) < nI a) = (0 < a) := zz_lt (a := 0) (by decide) ha
theorem zz_le0 {a : Nat} (ha : a < 2 ^ 31) : (nI a ≤ 0) = (a ≤ 0) := zz_le (b := 0) ha (by decide)
theorem zz_not (a : Nat) : nI a ^^^ (-1) = nI (a ^^^ 4294967295) := by
  rw [show (-1 : Int32) = nI 4294967295 by decide, zz_xor]
theorem zz_neg {a : Nat} (h : a ≤ 4294967296) : -nI a = nI (4294967296 - a) := by
  apply Int32.toBitVec_inj.1
  show -BitVec.ofNat 32 a = BitVec.ofNat 32 (4294967296 - a)
  apply BitVec.eq_of_toNat_eq
  simp only [BitVec.toNat_neg, BitVec.toNat_ofNat]
  omega
theorem zz_ior8 {a b : Nat} (h : b < 8) : nI (a * 2 ^ 3) ||| nI b = nI (a * 2 ^ 3 + b) := by
  rw [zz_or, Nat.mul_comm, ← Nat.two_pow_add_eq_or_of_lt (i := 3) h]
theorem zz_max {a b : Nat} (ha : a < 2 ^ 31) (hb : b < 2 ^ 31) : (if nI a < nI b then nI b else nI a) = nI (max a b) := by
  by_cases h : a < b
  · rw [if_pos (nI_lt h hb), Nat.max_eq_right (by omega)]
  · rw [if_neg (nI_nlt (by omega) ha), Nat.max_eq_left (by omega)]
theorem zz_min {a b : Nat} (ha : a < 2 ^ 31) (hb : b < 2 ^ 31) : (if nI b < nI a then nI b else nI a) = nI (min a b) := by
  by_cases h : b < a
  · rw [if_pos (nI_lt h ha), Nat.min_eq_right (by omega)]
  · rw [if_neg (nI_nlt (by omega) hb), Nat.min_eq_left (by omega)]
/-- a number or none: -1 for 0, k for k + 1 -/
def zz_o : Nat → Int32
  | 0 => -1
  | k + 1 => nI k
theorem zz_o_ne {k : Nat} (h : k < 2 ^ 31) : ¬ nI k = -1 := by
  intro q
  have a := nI_toInt h
  rw [q] at a
  have b : (-1 : Int32).toInt = -1 := by decide
  omega
theorem zz_o_none {k : Nat} (h : k ≤ 2 ^ 31) : (zz_o k = -1) = (k = 0) := by
  cases k with
  | zero => simp [zz_o]
  | succ k => exact propext ⟨fun q => absurd q (zz_o_ne (by omega)), fun q => by omega⟩
theorem zz_o_inj {a b : Nat} (ha : a ≤ 2 ^ 31) (hb : b ≤ 2 ^ 31) : (zz_o a = zz_o b) = (a = b) := by
  cases a with
  | zero =>
    cases b with
    | zero => simp
    | succ b => exact propext ⟨fun q => absurd q.symm (zz_o_ne (by omega)), fun q => by omega⟩
  | succ a =>
    cases b with
    | zero => exact propext ⟨fun q => absurd q (zz_o_ne (by omega)), fun q => by omega⟩
    | succ b => exact propext ⟨fun q => by rw [(nI_eq (by omega) (by omega)).mp q], fun q => by rw [q]⟩
theorem zz_o_n {a b : Nat} (ha : a ≤ 2 ^ 31) (hb : b < 2 ^ 31) : (zz_o a = nI b) = (a = b + 1) := zz_o_inj (b := b + 1) ha (by omega)
theorem zz_o_pos {a k : Nat} (h : a = k + 1) : zz_o a = nI k := by rw [h]; rfl
theorem zz_o_p {a : Nat} (h : ¬ a = 0) : zz_o a = nI (a - 1) := zz_o_pos (by omega)
def zz_b (b : Bool) : Nat := if b then 1 else 0
theorem zz_b_le (b : Bool) : zz_b b ≤ 1 := by cases b <;> decide
theorem zz_b0 {b : Bool} : (nI (zz_b b) = 0) = (b = false) := by cases b <;> simp [zz_b, nI] <;> decide
theorem zz_bn0 {b : Bool} : (¬ nI (zz_b b) = 0) = (b = true) := by rw [zz_b0]; cases b <;> simp
theorem zz_and_lt {a b n : Nat} (h : b < n) : a &&& b < n := Nat.lt_of_le_of_lt Nat.and_le_right h
theorem zz_and_lt' {a b n : Nat} (h : a < n) : a &&& b < n := Nat.lt_of_le_of_lt Nat.and_le_left h
/-- an array of numbers with one place changed -/
def zz_up (f : Nat → Nat) (k x : Nat) : Nat → Nat := fun j => if j = k then x else f j
theorem zz_up_s {f : Nat → Nat} {k x : Nat} : zz_up f k x k = x := by simp [zz_up]
theorem zz_up_n {f : Nat → Nat} {k x j : Nat} (h : j ≠ k) : zz_up f k x j = f j := by simp [zz_up, h]
theorem zz_up_up {f : Nat → Nat} {k x y : Nat} : zz_up (zz_up f k x) k y = zz_up f k y := by
  funext j
  by_cases e : j = k <;> simp [zz_up, e]
theorem zz_up_lt {f : Nat → Nat} {k x n : Nat} (h : ∀ j, f j < n) (hx : x < n) : ∀ j, zz_up f k x j < n := fun j => by
  by_cases e : j = k <;> simp [zz_up, e, hx, h]
theorem zz_up_le {f : Nat → Nat} {k x n : Nat} (h : ∀ j, f j ≤ n) (hx : x ≤ n) : ∀ j, zz_up f k x j ≤ n := fun j => by
  by_cases e : j = k <;> simp [zz_up, e, hx, h]
theorem zz_updN (f : Nat → Nat) (k x : Nat) : upd (fun j => nI (f j)) k (nI x) = fun j => nI (zz_up f k x j) := by
  funext j
  by_cases h : j = k <;> simp [upd, zz_up, h]
theorem zz_updO (f : Nat → Nat) (k x : Nat) : upd (fun j => zz_o (f j)) k (zz_o x) = fun j => zz_o (zz_up f k x j) := by
  funext j
  by_cases h : j = k <;> simp [upd, zz_up, h]
theorem zz_rd {a : Array Value} {s t : State} {v r : Int32} (h : v = r) (ht : t.heap = s.heap) : QcRead r a s (.returned (some (.int v))) t := ⟨by rw [h], ht⟩
section ZZH
variable {p : Program} {l : Launch} {e : Env} {R : Room} {s : State} {m : MethodId} {args : Array Value} {below : List Frame} {meth : Method} {c : Code} {H : Heap} {locs : List Loc} {cells slots : Nat} {Q : State → Prop}
variable {cc : ByteArray} {pc : Nat} {ls : Array Slot} {rest : List Value} {D : va_G} {cl : List vw_C} {A : Nat → Prop} {a : Nat} {tys : List (ClassId × FieldType)} {ws : va_W} {H0 : Heap}
theorem zz_top {x y : Int32} (h : x = y) (k : W p l e R s m args below meth c H locs cells slots Q (F0 m pc ls (.int y :: rest))) : W p l e R s m args below meth c H locs cells slots Q (F0 m pc ls (.int x :: rest)) := h ▸ k
theorem zz_iald (hexec : p.tables.exec = Jvm.exec) (hb : c.code = cc) (hK : va_K D cl tys s) (hP : va_P D cl ws H) (q0 t0 : Nat) {cA : ClassId} {n : Nat} {f : Nat → Int32} (ha : ws[q0]? = some (a, .inl (cA, n, .inl f))) (ht : tys[t0]? = some (cA, .int)) {j : Nat} (hj : j < n) (hn : n < 2 ^ 31) (hdg : decode cc pc = .ok (.iaload, 1))
    (kk : W p l e R s m args below meth c H locs cells slots Q (F0 m (pc + 1) ls (.int (f j) :: rest))) : W p l e R s m args below meth c H locs cells slots Q (F0 m pc ls (.int (nI j) :: .ref a :: rest)) := by
  refine va_iald hexec hb hK hP q0 t0 ha ht (vp_in_nI hj hn) hdg ?_
  rw [nI_clamp (Nat.lt_trans hj hn)]
  exact kk
theorem zz_iast (hexec : p.tables.exec = Jvm.exec) (hb : c.code = cc) (hK : va_K D cl tys s) (hP : va_P D cl ws H) (hD : va_D A ws) (hS : va_S A H0 H locs) (q0 t0 : Nat) {cA : ClassId} {n : Nat} {f : Nat → Int32} (ha : ws[q0]? = some (a, .inl (cA, n, .inl f))) (ht : tys[t0]? = some (cA, .int)) {j : Nat} {x : Int32} (hj : j < n) (hn : n < 2 ^ 31) (hdg : decode cc pc = .ok (.iastore, 1))
    (kk : ∀ (H1 : Heap) (locs1 : List Loc), va_P D cl (ws.set q0 (a, .inl (cA, n, .inl (upd f j x)))) H1 → va_D A (ws.set q0 (a, .inl (cA, n, .inl (upd f j x)))) → va_S A H0 H1 locs1 → W p l e R s m args below meth c H1 locs1 cells slots Q (F0 m (pc + 1) ls rest)) : W p l e R s m args below meth c H locs cells slots Q (F0 m pc ls (.int x :: .int (nI j) :: .ref a :: rest)) := by
  refine va_iast hexec hb hK hP hD hS q0 t0 ha ht (vp_in_nI hj hn) hdg ?_
  rw [nI_clamp (Nat.lt_trans hj hn)]
  exact kk
theorem zz_iastN (hexec : p.tables.exec = Jvm.exec) (hb : c.code = cc) (hK : va_K D cl tys s) (hP : va_P D cl ws H) (hD : va_D A ws) (hS : va_S A H0 H locs) (q0 t0 : Nat) {cA : ClassId} {n : Nat} {f : Nat → Nat} (ha : ws[q0]? = some (a, .inl (cA, n, .inl (fun j => nI (f j))))) (ht : tys[t0]? = some (cA, .int)) {j x : Nat} (hj : j < n) (hn : n < 2 ^ 31) (hdg : decode cc pc = .ok (.iastore, 1))
    (kk : ∀ (H1 : Heap) (locs1 : List Loc), va_P D cl (ws.set q0 (a, .inl (cA, n, .inl (fun i => nI (zz_up f j x i))))) H1 → va_D A (ws.set q0 (a, .inl (cA, n, .inl (fun i => nI (zz_up f j x i))))) → va_S A H0 H1 locs1 → W p l e R s m args below meth c H1 locs1 cells slots Q (F0 m (pc + 1) ls rest)) : W p l e R s m args below meth c H locs cells slots Q (F0 m pc ls (.int (nI x) :: .int (nI j) :: .ref a :: rest)) := by
  refine zz_iast hexec hb hK hP hD hS q0 t0 ha ht hj hn hdg ?_
  rw [zz_updN]
  exact kk
theorem zz_iastO (hexec : p.tables.exec = Jvm.exec) (hb : c.code = cc) (hK : va_K D cl tys s) (hP : va_P D cl ws H) (hD : va_D A ws) (hS : va_S A H0 H locs) (q0 t0 : Nat) {cA : ClassId} {n : Nat} {f : Nat → Nat} (ha : ws[q0]? = some (a, .inl (cA, n, .inl (fun j => zz_o (f j))))) (ht : tys[t0]? = some (cA, .int)) {j x : Nat} (hj : j < n) (hn : n < 2 ^ 31) (hdg : decode cc pc = .ok (.iastore, 1))
    (kk : ∀ (H1 : Heap) (locs1 : List Loc), va_P D cl (ws.set q0 (a, .inl (cA, n, .inl (fun i => zz_o (zz_up f j x i))))) H1 → va_D A (ws.set q0 (a, .inl (cA, n, .inl (fun i => zz_o (zz_up f j x i))))) → va_S A H0 H1 locs1 → W p l e R s m args below meth c H1 locs1 cells slots Q (F0 m (pc + 1) ls rest)) : W p l e R s m args below meth c H locs cells slots Q (F0 m pc ls (.int (zz_o x) :: .int (nI j) :: .ref a :: rest)) := by
  refine zz_iast hexec hb hK hP hD hS q0 t0 ha ht hj hn hdg ?_
  rw [zz_updO]
  exact kk
end ZZH
/-- what else holds at a start (statics): nothing; it doesn't see frames -/
def zz_nx : (Nat → Prop) → State → Prop := fun _ _ => True
def zz_blindX (X : (Nat → Prop) → State → Prop) : Prop := ∀ (A : Nat → Prop) (U : State) (g : JFrame) (mk : MethodId) (a : Array Value), X A U → X A (U.calling g mk a)
theorem zz_blind_nx : zz_blindX zz_nx := fun _ _ _ _ _ h => h
/-- a method that reads: the heap stays -/
def zz_pre (D : va_G) (cl : List vw_C) (tys : List (ClassId × FieldType)) (ws : va_W) (X : (Nat → Prop) → State → Prop) : State → Prop := fun U => va_P D cl ws U.heap ∧ va_K D cl tys U ∧ X (fun _ => False) U
theorem zz_pre_blind {D : va_G} {cl : List vw_C} {tys : List (ClassId × FieldType)} {ws : va_W} {X : (Nat → Prop) → State → Prop} (hX : zz_blindX X) {av : List Value} : FrameBlind (va_Pc av (zz_pre D cl tys ws X)) := fun a U g mk q => by
  obtain ⟨q0, qP, qK, qX⟩ := q
  exact ⟨q0, qP, va_K.moved (u := U) (U := U.calling g mk a) (Vm.Alike.refl U.vm) qK, hX _ _ _ _ _ qX⟩
section ZZR
variable {p : Program} {l : Launch} {e : Env} {R : Room} {s : State} {m : MethodId} {args : Array Value} {below : List Frame} {meth : Method} {c : Code} {H : Heap} {locs : List Loc} {cells slots : Nat} {Q : State → Prop}
variable {y : MethodName} {bytes cc : ByteArray} {maxL nL n index : Nat} {ret : Option FieldType} {ws : List Cond} {rm : Room} {Ts : List Cond} {own C : String} {b : Addr} {As rest st0 : List Value} {pc : Nat} {ls : Array Slot} {D : va_G} {cl : List vw_C} {tys : List (ClassId × FieldType)} {wc : va_W} {r : Int32} {X : (Nat → Prop) → State → Prop}
theorem zz_rV (S : CallFix p m c cc nL s args Ts own) (hM : Met l y ws rm (va_Pc (.ref b :: As) (zz_pre D cl tys wc X)) (QcRead r) 0 0 (fun _ => False)) (cw : CallW R s args own C index y bytes maxL ret ws rm 0 0 n) (hbX : zz_blindX X) (hK : va_K D cl tys s) (hP : va_P D cl wc H) (hXs : ∀ U : State, U.heap = H → s.WarmedH U.vm → X (fun _ => False) U)
    (ci q0 : Nat) {T : u_T} {N : Nat} (hc : cl[ci]? = some (C, T, N)) {fs : List Value} (he : wc[q0]? = some (b, .inr (ci, fs))) (hn : As.length = n) (hsize : ls.size = nL) (hst : st0 = As.reverse ++ .ref b :: rest) (hW : (rest.map fun v => v.category).sum ≤ 8) (hdg : decode cc pc = .ok (.invokevirtual index, 3)) (hf : cells ≤ R.cells ∧ slots ≤ R.slots)
    (kk : W p l e R s m args below meth c H locs cells slots Q (F0 m (pc + 3) ls (.int r :: rest))) : W p l e R s m args below meth c H locs cells slots Q (F0 m pc ls st0) := by
  subst hst
  exact W.callR (W.runV S hM cw ⟨zz_pre_blind hbX, va_recv hK hP hc he, fun U hU hW => ⟨rfl, by rw [hU]; exact hP, va_K.moved hW.alike hK, hXs U hU hW⟩⟩ rfl hn hsize rfl (lv_room hW) hdg hf) kk
theorem zz_rS (S : CallFix p m c cc nL s args Ts own) (hM : Met l y ws rm (va_Pc As (zz_pre D cl tys wc X)) (QcRead r) 0 0 (fun _ => False)) (cw : CallB R s args own index y bytes maxL ret ws rm 0 0 n ∧ (Cond.static y).before args s = true) (hbX : zz_blindX X) (hK : va_K D cl tys s) (hP : va_P D cl wc H) (hXs : ∀ U : State, U.heap = H → s.WarmedH U.vm → X (fun _ => False) U)
    (hn : As.length = n) (hsize : ls.size = nL) (hst : st0 = As.reverse ++ rest) (hW : (rest.map fun v => v.category).sum ≤ 8) (hdg : decode cc pc = .ok (.invokestatic index, 3)) (hf : cells ≤ R.cells ∧ slots ≤ R.slots)
    (kk : W p l e R s m args below meth c H locs cells slots Q (F0 m (pc + 3) ls (.int r :: rest))) : W p l e R s m args below meth c H locs cells slots Q (F0 m pc ls st0) := by
  subst hst
  exact W.callR (W.runS S hM cw ⟨zz_pre_blind hbX, fun U hU hW => ⟨rfl, by rw [hU]; exact hP, va_K.moved hW.alike hK, hXs U hU hW⟩⟩ rfl hn hsize rfl (lv_room hW) hdg hf) kk
end ZZR
/-! methods that write: the world before, the world behind; X: what else holds (statics) -/
def zz_preW (D : va_G) (cl : List vw_C) (tys : List (ClassId × FieldType)) (ws : va_W) (sz : Nat) (X : (Nat → Prop) → State → Prop) : State → Prop := fun U => U.heap.size = sz ∧ va_P D cl ws U.heap ∧ va_K D cl tys U ∧ va_D (fun _ => True) ws ∧ X (va_A ws sz) U
def zz_post (D : va_G) (cl : List vw_C) (tys : List (ClassId × FieldType)) (A : Nat → Prop) (ws : va_W) : State → Prop := fun t => va_P D cl ws t.heap ∧ va_K D cl tys t ∧ va_D A ws
theorem zz_preW_blind {D : va_G} {cl : List vw_C} {tys : List (ClassId × FieldType)} {ws : va_W} {sz : Nat} {X : (Nat → Prop) → State → Prop} (hX : zz_blindX X) {av : List Value} : FrameBlind (va_Pc av (zz_preW D cl tys ws sz X)) := fun a U g mk q => by
  obtain ⟨q0, q1, qP, qK, qD, qX⟩ := q
  exact ⟨q0, q1, qP, va_K.moved (u := U) (U := U.calling g mk a) (Vm.Alike.refl U.vm) qK, qD, hX _ _ _ _ _ qX⟩
theorem zz_at {ws wc : va_W} {is : List Nat} (h : is.map (fun i => ws[i]?) = wc.map some) (k : Nat) (q : Nat × va_E) (hk : wc[k]? = some q) : ∃ i, is[k]? = some i ∧ ws[i]? = some q := by
  have h1 : (wc.map some)[k]? = some (some q) := by rw [List.getElem?_map, hk]; rfl
  rw [← h, List.getElem?_map] at h1
  cases hi : is[k]? with
  | none => rw [hi] at h1; cases h1
  | some i =>
    rw [hi] at h1
    exact ⟨i, rfl, Option.some.inj h1⟩
theorem zz_Psub {D : va_G} {cl : List vw_C} {ws wc : va_W} {H : Heap} (h : va_P D cl ws H) (is : List Nat) (hC : is.map (fun i => ws[i]?) = wc.map some) : va_P D cl wc H := fun k q hk => by
  obtain ⟨i, -, h2⟩ := zz_at hC k q hk
  exact h i q h2
section ZZW
variable {p : Program} {l : Launch} {e : Env} {R : Room} {s : State} {m : MethodId} {args : Array Value} {below : List Frame} {meth : Method} {c : Code} {H : Heap} {locs : List Loc} {cells slots : Nat} {Q : State → Prop}
variable {y : MethodName} {bytes cc : ByteArray} {maxL nL n index : Nat} {ret : Option FieldType} {ws : List Cond} {rm : Room} {Ts : List Cond} {own C : String} {b : Addr} {As rest st0 : List Value} {pc : Nat} {ls : Array Slot} {D : va_G} {cl : List vw_C} {tys : List (ClassId × FieldType)} {wu wc wr w1 : va_W} {r : Int32} {A : Nat → Prop} {H0 : Heap} {X : (Nat → Prop) → State → Prop}
theorem zz_wV (S : CallFix p m c cc nL s args Ts own) (hM : Met l y ws rm (va_Pc (.ref b :: As) (zz_preW D cl tys wc H.size X)) (va_Qv (fun _ : Unit => True) (fun _ => zz_post D cl tys (va_A wc H.size) w1) (va_A wc H.size)) 0 0 (va_A wc H.size)) (cw : CallW R s args own C index y bytes maxL ret ws rm 0 0 n) (hbX : zz_blindX X) (hK : va_K D cl tys s) (hP : va_P D cl wu H) (hD : va_D A wu) (hS : va_S A H0 H locs) (hA : ∀ q, H0.size ≤ q → A q)
    (isC isR : List Nat) (hC : isC.map (fun i => wu[i]?) = wc.map some) (hR : isR.map (fun i => wu[i]?) = wr.map some) (hnC : va_nd isC = true) (hnR : va_nd isR = true) (hdis : ∀ i ∈ isR, i ∉ isC)
    (hXs : ∀ U : State, U.heap = H → s.WarmedH U.vm → (∀ q, va_A wc H.size q → A q) → X (va_A wc H.size) U)
    (ci : Nat) {T : u_T} {N : Nat} (hc : cl[ci]? = some (C, T, N)) {fs : List Value} (he : wc[0]? = some (b, .inr (ci, fs))) (hn : As.length = n) (hsize : ls.size = nL) (hst : st0 = As.reverse ++ .ref b :: rest) (hW : (rest.map fun v => v.category).sum ≤ 8) (hdg : decode cc pc = .ok (.invokevirtual index, 3)) (hf : cells ≤ R.cells ∧ slots ≤ R.slots)
    (kk : ∀ (H1 : Heap) (locs1 : List Loc), va_P D cl (wr ++ w1) H1 → va_D A (wr ++ w1) → va_S A H0 H1 locs1 → W p l e R s m args below meth c H1 locs1 cells slots Q (F0 m (pc + 3) ls rest)) : W p l e R s m args below meth c H locs cells slots Q (F0 m pc ls st0) := by
  subst hst
  have hPc := zz_Psub hP isC hC
  have hDc := hD.sub isC hnC hC
  have hFc := va_free (wc := wc) hD hS hA isC hC
  refine va_callv (va_runV S hM cw ⟨zz_preW_blind hbX, va_recv hK hPc hc he, fun U hU hW => ⟨rfl, by rw [hU], by rw [hU]; exact hPc, va_K.moved hW.alike hK, hDc.weaken (fun _ _ _ _ => trivial), hXs U hU hW hFc⟩⟩ rfl hn hsize rfl (lv_room hW) hdg hf) hS (fun q _ h => hFc q h) hFc (fun u t H1 locs1 ht hvm hw hB hz1 hk1 hS1 => ?_)
  obtain ⟨hP1, hK1, hD1⟩ := hB
  rw [ht] at hP1
  obtain ⟨hP2, hD2⟩ := va_join (wr := wr) (w1 := w1) hP hD isC isR hC hR hnR hdis hk1 hFc hP1 hD1
  exact kk H1 locs1 hP2 hD2 hS1
theorem zz_wVi (S : CallFix p m c cc nL s args Ts own) (hM : Met l y ws rm (va_Pc (.ref b :: As) (zz_preW D cl tys wc H.size X)) (va_Qi (fun (z : Int32) (_ : Unit) => z = r) (fun _ => zz_post D cl tys (va_A wc H.size) w1) (va_A wc H.size)) 0 0 (va_A wc H.size)) (cw : CallW R s args own C index y bytes maxL ret ws rm 0 0 n) (hbX : zz_blindX X) (hK : va_K D cl tys s) (hP : va_P D cl wu H) (hD : va_D A wu) (hS : va_S A H0 H locs) (hA : ∀ q, H0.size ≤ q → A q)
    (isC isR : List Nat) (hC : isC.map (fun i => wu[i]?) = wc.map some) (hR : isR.map (fun i => wu[i]?) = wr.map some) (hnC : va_nd isC = true) (hnR : va_nd isR = true) (hdis : ∀ i ∈ isR, i ∉ isC)
    (hXs : ∀ U : State, U.heap = H → s.WarmedH U.vm → (∀ q, va_A wc H.size q → A q) → X (va_A wc H.size) U)
    (ci : Nat) {T : u_T} {N : Nat} (hc : cl[ci]? = some (C, T, N)) {fs : List Value} (he : wc[0]? = some (b, .inr (ci, fs))) (hn : As.length = n) (hsize : ls.size = nL) (hst : st0 = As.reverse ++ .ref b :: rest) (hW : (rest.map fun v => v.category).sum ≤ 8) (hdg : decode cc pc = .ok (.invokevirtual index, 3)) (hf : cells ≤ R.cells ∧ slots ≤ R.slots)
    (kk : ∀ (H1 : Heap) (locs1 : List Loc), va_P D cl (wr ++ w1) H1 → va_D A (wr ++ w1) → va_S A H0 H1 locs1 → W p l e R s m args below meth c H1 locs1 cells slots Q (F0 m (pc + 3) ls (.int r :: rest))) : W p l e R s m args below meth c H locs cells slots Q (F0 m pc ls st0) := by
  subst hst
  have hPc := zz_Psub hP isC hC
  have hDc := hD.sub isC hnC hC
  have hFc := va_free (wc := wc) hD hS hA isC hC
  refine va_calli (va_runV S hM cw ⟨zz_preW_blind hbX, va_recv hK hPc hc he, fun U hU hW => ⟨rfl, by rw [hU], by rw [hU]; exact hPc, va_K.moved hW.alike hK, hDc.weaken (fun _ _ _ _ => trivial), hXs U hU hW hFc⟩⟩ rfl hn hsize rfl (lv_room hW) hdg hf) hS (fun q _ h => hFc q h) hFc (fun z u t H1 locs1 ht hvm hw hB hz1 hk1 hS1 => ?_)
  obtain ⟨hP1, hK1, hD1⟩ := hB
  rw [ht] at hP1
  obtain ⟨hP2, hD2⟩ := va_join (wr := wr) (w1 := w1) hP hD isC isR hC hR hnR hdis hk1 hFc hP1 hD1
  rw [show z = r from hw]
  exact kk H1 locs1 hP2 hD2 hS1
theorem zz_wSi (S : CallFix p m c cc nL s args Ts own) (hM : Met l y ws rm (va_Pc As (zz_preW D cl tys wc H.size X)) (va_Qi (fun (z : Int32) (_ : Unit) => z = r) (fun _ => zz_post D cl tys (va_A wc H.size) w1) (va_A wc H.size)) 0 0 (va_A wc H.size)) (cw : CallB R s args own index y bytes maxL ret ws rm 0 0 n ∧ (Cond.static y).before args s = true) (hbX : zz_blindX X) (hK : va_K D cl tys s) (hP : va_P D cl wu H) (hD : va_D A wu) (hS : va_S A H0 H locs) (hA : ∀ q, H0.size ≤ q → A q)
    (isC isR : List Nat) (hC : isC.map (fun i => wu[i]?) = wc.map some) (hR : isR.map (fun i => wu[i]?) = wr.map some) (hnC : va_nd isC = true) (hnR : va_nd isR = true) (hdis : ∀ i ∈ isR, i ∉ isC)
    (hXs : ∀ U : State, U.heap = H → s.WarmedH U.vm → (∀ q, va_A wc H.size q → A q) → X (va_A wc H.size) U)
    (hn : As.length = n) (hsize : ls.size = nL) (hst : st0 = As.reverse ++ rest) (hW : (rest.map fun v => v.category).sum ≤ 8) (hdg : decode cc pc = .ok (.invokestatic index, 3)) (hf : cells ≤ R.cells ∧ slots ≤ R.slots)
    (kk : ∀ (H1 : Heap) (locs1 : List Loc), va_P D cl (wr ++ w1) H1 → va_D A (wr ++ w1) → va_S A H0 H1 locs1 → W p l e R s m args below meth c H1 locs1 cells slots Q (F0 m (pc + 3) ls (.int r :: rest))) : W p l e R s m args below meth c H locs cells slots Q (F0 m pc ls st0) := by
  subst hst
  have hPc := zz_Psub hP isC hC
  have hDc := hD.sub isC hnC hC
  have hFc := va_free (wc := wc) hD hS hA isC hC
  refine va_calli (va_runS S hM cw ⟨zz_preW_blind hbX, fun U hU hW => ⟨rfl, by rw [hU], by rw [hU]; exact hPc, va_K.moved hW.alike hK, hDc.weaken (fun _ _ _ _ => trivial), hXs U hU hW hFc⟩⟩ rfl hn hsize rfl (lv_room hW) hdg hf) hS (fun q _ h => hFc q h) hFc (fun z u t H1 locs1 ht hvm hw hB hz1 hk1 hS1 => ?_)
  obtain ⟨hP1, hK1, hD1⟩ := hB
  rw [ht] at hP1
  obtain ⟨hP2, hD2⟩ := va_join (wr := wr) (w1 := w1) hP hD isC isR hC hR hnR hdis hk1 hFc hP1 hD1
  rw [show z = r from hw]
  exact kk H1 locs1 hP2 hD2 hS1
end ZZW
/-! arrays of ints that are made, all of one class; constructors -/
section ZZN
variable {p : Program} {l : Launch} {e : Env} {R : Room} {s : State} {m : MethodId} {args : Array Value} {below : List Frame} {meth : Method} {c : Code} {H : Heap} {locs : List Loc} {cells slots : Nat} {Q : State → Prop}
variable {cc : ByteArray} {pc : Nat} {ls : Array Slot} {rest : List Value} {D : va_G} {cl : List vw_C} {A : Nat → Prop} {a : Nat} {cA : ClassId} {ws : va_W} {H0 : Heap}
theorem zz_newi (hexec : p.tables.exec = Jvm.exec) (hb : c.code = cc) (harr : (Cond.arrayClass .int).before args s = true) (hK : va_K D cl [(cA, .int)] s) (hP : va_P D cl ws H) (hD : va_D A ws) (hS : va_S A H0 H locs) (hA : ∀ q, H0.size ≤ q → A q)
    {n : Nat} (hn : n < 100000) (hcells : cells + 1 ≤ R.cells) (hslots : slots + n ≤ R.slots) (hdg : decode cc pc = .ok (.newarray .int, 2))
    (kk : ∀ (q : Nat) (H1 : Heap), va_P D cl (ws ++ [(q, .inl (cA, n, .inl (fun _ => nI 0)))]) H1 → va_D A (ws ++ [(q, .inl (cA, n, .inl (fun _ => nI 0)))]) → va_S A H0 H1 locs → W p l e R s m args below meth c H1 locs (cells + 1) (slots + n) Q (F0 m (pc + 2) ls (.ref q :: rest))) : W p l e R s m args below meth c H locs cells slots Q (F0 m pc ls (.int (nI n) :: rest)) := by
  refine va_newa (atype := .int) (ty := .int) (N' := n) (a0 := (n, .inl (fun _ => nI 0))) hexec hb harr rfl hK hP hD hS hA (fun cA => rfl) (nI_pos (by omega)) (nI_clamp (by omega)) (by show n * 4 ≤ _; omega) hcells hslots hdg (fun q cB H1 hK1 hP1 hD1 hS1 => ?_)
  have h1 : s.vm.findClass _ = some cB := (hK1.2 1 _ rfl).2
  have h0 : s.vm.findClass _ = some cA := (hK.2 0 _ rfl).2
  have e1 : cB = cA := Option.some.inj (h1.symm.trans h0)
  subst e1
  exact kk q H1 hP1 hD1 hS1
end ZZN
/-! the class's one static table: the powers of 3 -/
def zz_st (t : Nat) : (Nat → Prop) → State → Prop := fun A U => va_Z "DecodeTests$Tables" "POWERS" "[I" (.ref t) A U U.heap ∧ va_T .int t 9 (fun j => .int (nI (3 ^ j))) A U U.heap
theorem zz_blind_st (t : Nat) : zz_blindX (zz_st t) := fun A U g mk a h => ⟨va_Z.moved (u := U) (U := U.calling g mk a) (Vm.Alike.refl U.vm) h.1, va_T.moved (u := U) (U := U.calling g mk a) (Vm.Alike.refl U.vm) h.2⟩
theorem zz_st_use {t : Nat} {A B : Nat → Prop} {s U : State} {H : Heap} {locs : List Loc} (h : zz_st t A s) (hS : va_S A s.heap H locs) (hU : U.heap = H) (hW : s.WarmedH U.vm) (hAB : ∀ q, B q → A q) : zz_st t B U := by
  have hk : ∀ a : Nat, a < s.heap.size → ¬ A a → H[a]? = s.heap[a]? := hS.2.1
  refine ⟨?_, ?_⟩
  · rw [hU]; exact va_Z.narrow (va_Z.moved hW.alike (va_Z.kept h.1 hk)) hAB
  · rw [hU]; exact va_T.narrow (va_T.moved hW.alike (va_T.kept h.2 hk)) hAB
-- the lowest bit of a number, how many bits it has
def zz_ntz : Nat → Nat → Nat
  | 0, _ => 0
  | f + 1, x => if x % 2 = 1 then 0 else zz_ntz f (x / 2) + 1
def zz_bc : Nat → Nat → Nat
  | 0, _ => 0
  | f + 1, x => x % 2 + zz_bc f (x / 2)
theorem zz_128 {P : Nat → Prop} (h : ∀ a, a < 128 → ∀ b, b < 128 → P (128 * a + b)) : ∀ x, x < 16384 → P x := fun x hx => by
  have e : x = 128 * (x / 128) + x % 128 := by omega
  rw [e]
  exact h _ (by omega) _ (by omega)
