/-! a throw's end: the world is as it was, and a new object of the class is thrown -/
def zx_Q (Xn : String) (B : State → Prop) (A : Nat → Prop) : Array Value → State → Outcome → State → Prop := fun _ st o t => (∃ x, o = .threw x ∧ (∃ ce : Cell, t.heap[x]? = some ce ∧ ce.vm.isStatics = false ∧ st.vm.findClass Xn = some ce.cls) ∧ B t) ∧ va_F A st t
theorem zx_end {Xn : String} {D : va_G} {cl : List vw_C} {tys : List (ClassId × FieldType)} {A : Nat → Prop} {ws : va_W} {H : Heap} {locs : List Loc} {s t : State} {args : Array Value} {ce : Cell} (hK : va_K D cl tys s) (hP : va_P D cl ws H) (hD : va_D A ws) (hS : va_S A s.heap H locs)
    (h1 : t.heap[H.size]? = some ce) (h2 : ce.vm.isStatics = false) (h3 : s.vm.findClass Xn = some ce.cls) (h4 : ∀ z : Nat, z < H.size → t.heap[z]? = H[z]?) (h5 : H.size ≤ t.heap.size) (h6 : s.WarmedH t.vm) : zx_Q Xn (zz_post D cl tys A ws) A args s (.threw H.size) t :=
  ⟨⟨H.size, rfl, ⟨ce, h1, h2, h3⟩, hP.kept (fun k q hq => h4 q.1 ((hP k q hq).lt)), va_K.moved h6.alike hK, hD⟩, Nat.le_trans hS.1 h5, fun q g1 g2 => (h4 q (Nat.lt_of_lt_of_le g1 hS.1)).trans (hS.2.1 q g1 g2)⟩
def zx_Xt (t : Nat) : (Nat → Prop) → State → Prop := fun A U => zz_st t A U ∧ zx_X A U
theorem zx_blindt (t : Nat) : zz_blindX (zx_Xt t) := fun A U g mk a h => ⟨zz_blind_st t A U g mk a h.1, zx_blind A U g mk a h.2⟩
def zD_eok (bw : Nat) (x1 x2 x3 x4 : Int32) : Bool := zD_isW bw x1 && (decide (x2 &&& (x1 ^^^ -1) = 0) && (!decide (x3 < nI 1) && (!decide (nI 3 < x3) && (!decide (x4 < -1) && decide (x4 ≤ nI 7)))))
/-! the same at a call, and its handler -/
section ZX4
variable {p : Program} {l : Launch} {e : Env} {R : Room} {s : State} {m : MethodId} {args : Array Value} {below : List Frame} {meth : Method} {c : Code} {H : Heap} {locs : List Loc} {cells slots : Nat} {Q : State → Prop}
variable {y : MethodName} {bytes cc : ByteArray} {maxL nL n index mc ms : Nat} {ret : Option FieldType} {ws : List Cond} {rm : Room} {Ts : List Cond} {own C Xn : String} {b : Addr} {As rest st0 : List Value} {pc : Nat} {ls : Array Slot} {D : va_G} {cl : List vw_C} {tys : List (ClassId × FieldType)} {wu wc wr w1 : va_W} {A : Nat → Prop} {H0 : Heap} {X : (Nat → Prop) → State → Prop}
theorem zx_wT (S : CallFix p m c cc nL s args Ts own) (hM : zx_Met l y ws rm (va_Pc (.ref b :: As) (zz_preW D cl tys wc H.size X)) (zx_Q Xn (zz_post D cl tys (va_A wc H.size) w1) (va_A wc H.size)) mc ms (va_A wc H.size)) (cw : CallW R s args own C index y bytes maxL ret ws rm mc ms n) (hbX : zz_blindX X) (hK : va_K D cl tys s) (hP : va_P D cl wu H) (hD : va_D A wu) (hS : va_S A H0 H locs) (hA : ∀ q, H0.size ≤ q → A q)
    (isC isR : List Nat) (hC : isC.map (fun i => wu[i]?) = wc.map some) (hR : isR.map (fun i => wu[i]?) = wr.map some) (hnC : va_nd isC = true) (hnR : va_nd isR = true) (hdis : ∀ i ∈ isR, i ∉ isC)
    (hXs : ∀ U : State, U.heap = H → s.WarmedH U.vm → (∀ q, va_A wc H.size q → A q) → X (va_A wc H.size) U)
    (ci : Nat) {T : u_T} {N : Nat} (hc : cl[ci]? = some (C, T, N)) {fs : List Value} (he : wc[0]? = some (b, .inr (ci, fs))) (hn : As.length = n) (hsize : ls.size = nL) (hst : st0 = As.reverse ++ .ref b :: rest) (hW : (rest.map fun v => v.category).sum ≤ 8) (hdg : decode cc pc = .ok (.invokevirtual index, 3)) (hf : cells + mc ≤ R.cells ∧ slots + ms ≤ R.slots)
    {hpc : Nat} (hcatch : ∀ (T9 : State) (L9 : List Loc) (k9 n9 : Nat) (x : Addr) (cell : Cell), Stand p l e R s m args below meth c T9 L9 k9 n9 → T9.heap[x]? = some cell → cell.vm.isStatics = false → s.vm.findClass Xn = some cell.cls →
      ∃ vm', Stand p l e R s m args below meth c (T9.setVm vm') L9 k9 n9 ∧ ∀ target, Steps p.tables e below ((T9.setVm vm').setTop (F0 m hpc ls [.ref x])) target → Steps p.tables e below ((T9.setTop (F0 m pc ls rest)).pushFrame (.throwing x)) target)
    (kk : ∀ (x : Nat) (H1 : Heap) (locs1 : List Loc), va_P D cl (wr ++ w1) H1 → va_D A (wr ++ w1) → va_S A H0 H1 locs1 → W p l e R s m args below meth c H1 locs1 (cells + mc) (slots + ms) Q (F0 m hpc ls [.ref x])) : W p l e R s m args below meth c H locs cells slots Q (F0 m pc ls st0) := by
  subst hst
  have hPc := zz_Psub hP isC hC
  have hDc := hD.sub isC hnC hC
  have hFc := va_free (wc := wc) hD hS hA isC hC
  intro T9 hT9 X9
  obtain ⟨x, st₀, t, T', L, h0, hal, X', hL, e1, e2, ⟨⟨x', ho, ⟨ce, c1, c2, c3⟩, hP1, hK1, hD1⟩, hz1, hk1⟩, hgo⟩ := zx_run S hM cw ⟨zz_preW_blind hbX, va_recv hK hPc hc he, fun U hU hW => ⟨rfl, by rw [hU], by rw [hU]; exact hPc, va_K.moved hW.alike hK, hDc.weaken (fun _ _ _ _ => trivial), hXs U hU hW hFc⟩⟩ (g := F0 m pc ls (As.reverse ++ .ref b :: rest)) rfl hn hsize rfl (lv_room hW) hdg hf hT9 X9
  cases ho
  rw [h0] at hz1 hk1
  rw [← e1] at hP1 c1 hz1
  have hk2 : ∀ q : Nat, q < H.size → ¬ va_A wc H.size q → T'.heap[q]? = H[q]? := fun q g1 g2 => by rw [e1]; exact hk1 q g1 g2
  obtain ⟨hP2, hD2⟩ := va_join (wr := wr) (w1 := w1) hP hD isC isR hC hR hnR hdis hk2 hFc hP1 hD1
  have hS2 : va_S A H0 T'.heap (locs ++ L) := ⟨Nat.le_trans hS.1 hz1, fun q g1 g2 => by rw [hk2 q (Nat.lt_of_lt_of_le g1 hS.1) (fun z => g2 (hFc q z))]; exact hS.2.1 q g1 g2, fun q hq => by
    rcases List.mem_append.mp hq with h | h
    · exact hS.2.2 q h
    · exact hFc _ (hL q h)⟩
  obtain ⟨vm', X2, hgo2⟩ := hcatch T' _ _ _ x ce X' c1 c2 (by rw [hal.findClass]; exact c3)
  obtain ⟨t2, a1, b1⟩ := kk x T'.heap (locs ++ L) hP2 hD2 hS2 (T'.setVm vm') rfl X2
  exact ⟨t2, hgo t2 (hgo2 t2 a1), b1⟩
end ZX4
