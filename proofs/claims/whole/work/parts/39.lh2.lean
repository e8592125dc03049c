def zx_ns : List Cond := [.not (.castable zx_uoe zx_iae), .not (.castable zx_ise zx_iae)]
theorem zx_ns_mv : ∀ w ∈ zx_ns, zx_mv w = true := by decide
/-- all that a call of the class may lean on, beside its world -/
def zx_L (t : Nat) : (Nat → Prop) → State → Prop := fun A U => zz_st t A U ∧ zx_X A U ∧ ∀ w ∈ zx_ns, w.before #[] U = true
theorem zx_blindL (t : Nat) : zz_blindX (zx_L t) := fun A U g mk a h => ⟨zz_blind_st t A U g mk a h.1, zx_blind A U g mk a h.2.1, fun w hw => zx_mv_ok (zx_ns_mv w hw) (u := U) (Vm.Alike.refl U.vm) (h.2.2 w hw)⟩
theorem zx_useL {t : Nat} {A B : Nat → Prop} {s U : State} {H : Heap} {locs : List Loc} (h : zx_L t A s) (hS : va_S A s.heap H locs) (hU : U.heap = H) (hW : s.WarmedH U.vm) (hAB : ∀ q, B q → A q) : zx_L t B U :=
  ⟨zz_st_use h.1 hS hU hW hAB, zx_use h.2.1 hS hU hW hAB, fun w hw => zx_mv_ok (zx_ns_mv w hw) hW.alike (h.2.2 w hw)⟩
theorem zx_cast {A : Nat → Prop} {s : State} {args : Array Value} {w : Cond} (h : zx_X A s) (hw : w ∈ zx_ws) : w.before args s = true := zx_mv_ok (zx_ws_mv w hw) (Vm.Alike.refl s.vm) (h.2.2.1 w hw)
theorem zx_ncast {t : Nat} {A : Nat → Prop} {s : State} {args : Array Value} {w : Cond} (h : zx_L t A s) (hw : w ∈ zx_ns) : w.before args s = true := zx_mv_ok (zx_ns_mv w hw) (Vm.Alike.refl s.vm) (h.2.2 w hw)
section ZL2
variable {p : Program} {l : Launch} {e : Env} {R : Room} {s : State} {m : MethodId} {args : Array Value} {below : List Frame} {meth : Method} {c : Code} {T9 : State} {L9 : List Loc} {k9 n9 : Nat} {own Xn Yn : String} {f1 t1 p1 k1 f2 t2 p2 k2 pc : Nat} {r1 : List (Nat × Nat × Nat × Nat)} {ls : Array Slot} {rest : List Value} {x : Addr} {cell : Cell}
theorem zx_hc1 (X9 : Stand p l e R s m args below meth c T9 L9 k9 n9) (htab : c.exceptionTable.toList.map (fun h => (h.startPc, h.endPc, h.handlerPc, h.catchType)) = (f1, t1, p1, k1) :: r1) (hown : s.vm.findClass own = some m.cls) (hlink : (Cond.classLink own k1 Xn).before args s = true) (h0 : k1 ≠ 0) (hcov : (decide (f1 ≤ pc) && decide (pc < t1)) = true)
    (c1 : T9.heap[x]? = some cell) (c2 : cell.vm.isStatics = false) (c3 : s.vm.findClass Xn = some cell.cls) (hcast : (Cond.castable Xn Xn).before args s = true) :
    ∃ vm', Stand p l e R s m args below meth c (T9.setVm vm') L9 k9 n9 ∧ ∀ target, Steps p.tables e below ((T9.setVm vm').setTop (F0 m p1 ls [.ref x])) target → Steps p.tables e below ((T9.setTop (F0 m pc ls rest)).pushFrame (.throwing x)) target := by
  obtain ⟨xr, tr, h1, e1, e2, e3, e4, e5⟩ := zx_h1 htab
  obtain ⟨vm', X', hgo⟩ := zx_catch1 X9 hown (x := xr) (by rw [e4]; exact hlink) h1 (g := F0 m pc ls rest) rfl (by unfold covers; rw [e1, e2]; exact hcov) (by rw [e4]; exact h0) c1 c2 c3 hcast
  exact ⟨vm', X', fun target ht => hgo target (by rw [e3]; exact ht)⟩
theorem zx_hc2 (X9 : Stand p l e R s m args below meth c T9 L9 k9 n9) (htab : c.exceptionTable.toList.map (fun h => (h.startPc, h.endPc, h.handlerPc, h.catchType)) = (f2, t2, p2, k2) :: (f1, t1, p1, k1) :: r1) (hown : s.vm.findClass own = some m.cls) (hlinkY : (Cond.classLink own k2 Yn).before args s = true) (hlink : (Cond.classLink own k1 Xn).before args s = true) (hy0 : k2 ≠ 0) (h0 : k1 ≠ 0) (hcovY : (decide (f2 ≤ pc) && decide (pc < t2)) = true) (hcov : (decide (f1 ≤ pc) && decide (pc < t1)) = true)
    (c1 : T9.heap[x]? = some cell) (c2 : cell.vm.isStatics = false) (c3 : s.vm.findClass Xn = some cell.cls) (hcast : (Cond.castable Xn Xn).before args s = true) (hno : (Cond.not (.castable Xn Yn)).before args s = true) :
    ∃ vm', Stand p l e R s m args below meth c (T9.setVm vm') L9 k9 n9 ∧ ∀ target, Steps p.tables e below ((T9.setVm vm').setTop (F0 m p1 ls [.ref x])) target → Steps p.tables e below ((T9.setTop (F0 m pc ls rest)).pushFrame (.throwing x)) target := by
  obtain ⟨yr, tr, h1, e1, e2, e3, e4, e5⟩ := zx_h1 htab
  have h9 : ∃ xr tr', tr = xr :: tr' ∧ xr.startPc = f1 ∧ xr.endPc = t1 ∧ xr.handlerPc = p1 ∧ xr.catchType = k1 := by
    cases tr with
    | nil => cases e5
    | cons a b =>
      simp only [List.map_cons, List.cons.injEq, Prod.mk.injEq] at e5
      exact ⟨a, b, rfl, e5.1.1, e5.1.2.1, e5.1.2.2.1, e5.1.2.2.2⟩
  obtain ⟨xr, tr', rfl, d1, d2, d3, d4⟩ := h9
  obtain ⟨vm', X', hgo⟩ := zx_catch2 X9 hown (x := xr) (y := yr) (by rw [e4]; exact hlinkY) (by rw [d4]; exact hlink) h1 (g := F0 m pc ls rest) rfl (by unfold covers; rw [e1, e2]; exact hcovY) (by rw [e4]; exact hy0) (by unfold covers; rw [d1, d2]; exact hcov) (by rw [d4]; exact h0) c1 c2 c3 hcast hno
  exact ⟨vm', X', fun target ht => hgo target (by rw [d3]; exact ht)⟩
end ZL2
