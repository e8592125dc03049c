/-! throws: a method that ends by throwing, and a call of it that is caught -/
def zx_Met (l : Launch) (y : MethodName) (ws : List Cond) (rm : Room) (Pc : Array Value → State → Prop) (Qc : Array Value → State → Outcome → State → Prop) (mc ms : Nat) (free : Addr → Prop) : Prop :=
  MetFree l y (headSpec ws rm) Pc (fun _ _ _ _ _ => True) (fun a st o t => Qc a st o t ∧ (∃ x, o = .threw x) ∧ st.WarmedH t.vm ∧ ∃ L, st.sameButNew ({ t with vm := st.vm } : State) L mc ms ∧ ∀ q ∈ L, free q.base)
def zx_MQ (below : List Frame) (Qc : Array Value → State → Outcome → State → Prop) (a : Array Value) (s : State) (mc ms : Nat) (free : Addr → Prop) : State → Prop := fun t =>
  ∃ o, t.status = .running ∧ Ended t below o ∧ Qc a s o t ∧ (∃ x, o = .threw x) ∧ s.WarmedH t.vm ∧ ∃ L, s.sameButNew ({ t with vm := s.vm } : State) L mc ms ∧ ∀ q ∈ L, free q.base
theorem zx_ofW {l : Launch} {y : MethodName} {ws ws' : List Cond} {rm : Room} {Pc : Array Value → State → Prop} {Qc : Array Value → State → Outcome → State → Prop} {mc ms : Nat} {free : Addr → Prop} {cc : ByteArray} {maxL : Nat} {ret : Option FieldType}
    (hy : plainName y.cls = true) (hw : ws = Cond.code y cc maxL ret :: ws')
    (body : ∀ p e s m args below meth c s₁, BodyLoose p l y (headSpec ws rm) cc maxL ret e s m args below meth c s₁ → c.maxLocals = maxL → Pc args s →
      W p l e (headSpec ws rm).room s m args below meth c s.heap [] 0 0 (zx_MQ below Qc args s mc ms free) (entryFrame m args maxL)) : zx_Met l y ws rm Pc Qc mc ms free := by
  refine MetFree.of_bodyS (code := cc) (maxLocals := maxL) (ret := ret) hy (fun args s m h hn => ?_) (fun p e s m args below meth c s₁ B hml hP _ => ?_)
  · obtain ⟨meth, c, h1, h2, h3, h4, h5, h6, -⟩ := Cond.code_spec hn (atoms_spec (ws := ws) h _ (by rw [hw]; exact List.mem_cons_self))
    exact ⟨meth, c, h1, h2, h3, h4, h5, h6⟩
  · obtain ⟨t, a1, o, b1, b2, b3⟩ := body p e s m args below meth c s₁ B hml hP s₁ (by rw [B.state]; rfl) (Stand.of_body B)
    exact ⟨t, o, a1, b1, b2, b3⟩
theorem zx_keptAll {s s' : State} {c n : Nat} (h : s.sameButNew s' [] c n) {q : Nat} {cell : Cell} (hq : s.heap[q]? = some cell) : s'.heap[q]? = some cell := by
  obtain ⟨cell', h1, h2, h3, h4⟩ := h.2.2.2.2.2 q cell hq
  have e : cell'.slots = cell.slots := by
    apply Array.ext_getElem?
    intro i
    exact h4 i (by simp)
  rw [h1, h2, e]
section ZX
variable {p : Program} {l : Launch} {e : Env} {R : Room} {s : State} {m : MethodId} {args : Array Value} {below : List Frame} {meth : Method} {c : Code} {T : State} {locs : List Loc} {cells slots : Nat}
/-- the walk seen from where it stands: nothing written, nothing made -/
theorem zx_rebase (X : Stand p l e R s m args below meth c T locs cells slots) (hc : cells ≤ R.cells) (hs : slots ≤ R.slots) : Stand p l e { R with cells := R.cells - cells, slots := R.slots - slots } ({ s with heap := T.heap, slotsUsed := T.slotsUsed } : State) m args below meth c T [] 0 0 := by
  have hb := X.book
  have hz := X.same
  refine ⟨X.admits, X.cas, X.clock, X.frames, ?_, X.hears, X.method, X.code, X.here, X.tail, X.warmed, X.limits, X.bytes, ?_⟩
  · have hr := X.room
    simp only [State.hasRoom, Bool.and_eq_true, decide_eq_true_eq] at hr ⊢
    obtain ⟨⟨⟨⟨r1, r2⟩, r3⟩, r4⟩, r5⟩ := hr
    have z1 : T.heap.size ≤ s.heap.size + cells := hz.2.2.1
    have z2 : T.slotsUsed ≤ s.slotsUsed + slots := by
      have h4 : T.slotsUsed = _ := hz.2.2.2.1
      have h5 := hz.2.2.2.2.1
      rw [h4]
      exact Nat.add_le_add_left h5 _
    refine ⟨⟨⟨⟨r1, r2⟩, ?_⟩, ?_⟩, hb⟩
    · show T.heap.size + (R.cells - cells) ≤ _
      omega
    · show T.slotsUsed + (R.slots - slots) ≤ _
      omega
  · refine ⟨?_, Nat.le_refl _, Nat.le_refl _, ?_, ?_, fun a c9 h => ⟨c9, h, rfl, rfl, fun _ _ => rfl⟩⟩
    · exact hz.1
    · show T.slotsUsed = T.slotsUsed + ((T.heap.toList.drop T.heap.size).map (·.slots.size)).sum
      rw [List.drop_of_length_le (by simp)]
      rfl
    · show ((T.heap.toList.drop T.heap.size).map (·.slots.size)).sum ≤ 0
      rw [List.drop_of_length_le (by simp)]
      exact Nat.le_refl 0

theorem zx_same2 {s T U : State} {L : List Loc} {k n k2 n2 : Nat} (h : s.sameButNew (T.setVm s.vm) L k n) (h2 : ({ s with heap := T.heap, slotsUsed := T.slotsUsed } : State).sameButNew ({ U with vm := s.vm } : State) [] k2 n2) : s.sameButNew ({ U with vm := s.vm } : State) L (k + k2) (n + n2) := by
  have h3 : (T.setVm s.vm).sameButNew ({ U with vm := s.vm } : State) [] k2 n2 := by
    have e2 : ∀ fs : List Frame, (T.setVm s.vm).setFrames fs = ({ s with heap := T.heap, slotsUsed := T.slotsUsed } : State).setFrames fs := by
      intro fs
      rw [h.1]
      show ({ (s.setFrames (T.setVm s.vm).frames).setFrames fs with heap := T.heap, slotsUsed := T.slotsUsed } : State) = { s.setFrames fs with heap := T.heap, slotsUsed := T.slotsUsed }
      rw [State.setFrames_setFrames]
    refine ⟨?_, h2.2⟩
    refine h2.1.trans ?_
    rw [e2]
  have h4 := h.trans h3
  rwa [List.append_nil] at h4
/-- new X; dup; ldc; invokespecial; athrow: out of the method -/
theorem zx_throw {H : Heap} {cc : ByteArray} {Qc : Array Value → State → Outcome → State → Prop} {free : Addr → Prop} (hl : ∀ e, l.admits e → e.platform.stackTraces = false) (hexec : p.tables.exec = Jvm.exec) (hb : c.code = cc)
    {own Xn tx : String} {names : List String} {i0 i1 i2 q : Nat} (hown : s.vm.findClass own = some m.cls) (hcl : (Cond.classLink own i0 Xn).before args s = true) (hin : (Cond.instantiable Xn 6).before args s = true) (hini : (Cond.initialized Xn).before args s = true)
    (hat : ∀ s' : State, s'.vm = s.vm → s'.heap = H → ∀ w ∈ Bundle.ownAtoms own i2 Xn names, w.before args s' = true) (hfit : Bundle.fit Xn = true) (hnames : ∀ n ∈ names, Bundle.fit n = true) (hstr : vk_R own i1 tx q s)
    {pc : Nat} {ls : Array Slot} {rest : List Value} (hno : c.exceptionTable.isEmpty = true) (hsz : ls.size = c.maxLocals) (hc1 : cells + 1 ≤ R.cells) (hs1 : slots + 6 ≤ R.slots) (hfr : names.length + 3 < R.frames) (hlo : (rest.map fun v => v.category).sum + (13 * (names.length + 1) + 43) ≤ R.locals)
    (hd0 : decode cc pc = .ok (.new i0, 3)) (hd1 : decode cc (pc + 3) = .ok (.dup, 1)) (hd2 : decode cc (pc + 3 + 1) = .ok (.ldc i1, 2)) (hd3 : decode cc (pc + 3 + 1 + 2) = .ok (.invokespecial i2, 3)) (hd4 : decode cc (pc + 3 + 1 + 2 + 3) = .ok (.athrow, 1))
    (hq : ∀ (t : State) (ce : Cell), t.heap[H.size]? = some ce → ce.vm.isStatics = false → s.vm.findClass Xn = some ce.cls → (∀ z : Nat, z < H.size → t.heap[z]? = H[z]?) → H.size ≤ t.heap.size → s.WarmedH t.vm → Qc args s (.threw H.size) t)
    (hf : ∀ z ∈ locs, free z.base) (hlocks : meth.locks = false) : W p l e R s m args below meth c H locs cells slots (zx_MQ below Qc args s (cells + 1) (slots + 6) free) (F0 m pc ls rest) := by
  intro T hT X0
  subst hT
  have X1 := zx_rebase X0 (by omega) (by omega)
  generalize hs' : ({ s with heap := T.heap, slotsUsed := T.slotsUsed } : State) = s' at X1
  have hvm : s'.vm = s.vm := by rw [← hs']
  have hhp : s'.heap = T.heap := by rw [← hs']
  have tr : ∀ w : Cond, w.onTables = true → w.before args s = true → w.before args s' = true := fun w h1 h2 => va_tabs h1 hvm.symm h2
  have K : W p l e { R with cells := R.cells - cells, slots := R.slots - slots } s' m args below meth c T.heap [] 0 0 (zx_MQ below Qc args s (cells + 1) (slots + 6) free) (F0 m pc ls rest) := by
    refine W.newc hexec hb (own := own) (C := Xn) (n := 6) (by rw [hvm]; exact hown) (tr _ rfl hcl) (tr _ rfl hin) (tr _ rfl hini) (g := F0 m pc ls rest) rfl hd0 (show 0 + 1 ≤ R.cells - cells by omega) (show 0 + 6 ≤ R.slots - slots by omega) (fun cC kC h1 h2 h3 h4 => ?_)
    refine lv_dup hexec hb hd1 rfl ?_
    refine va_ldcS hexec hb (own := own) (tx := tx) (q := q) (by rw [hvm]; exact hown) (vk_R.same hvm hstr) hd2 ?_
    intro T2 hT2 X2
    have hfc : T2.heap[T.heap.size]? = some (freshCell cC kC) := by
      rw [hT2, Array.getElem?_push, if_pos rfl]
    obtain ⟨U, hst, hrun, hend, hW, hsame, ce, hce, KK⟩ := X2.ctorThrowS hexec (hl e X0.admits) (own := own) (cls := Xn) (names := names) (ic := i2) (by rw [hvm]; exact hown) hfit hnames
      (hat s' hvm hhp)
      (fun x hx => by cases hx) (a := T.heap.size) h1 h2 hfc (by rw [hhp]; exact Nat.le_refl _) (msg := .ref q) rfl (g := F0 m (pc + 3 + 1 + 2) ls (.ref q :: .ref T.heap.size :: .ref T.heap.size :: rest)) rfl hsz rfl rfl (rest := rest) rfl
      (by rw [hb]; exact hd3) (by rw [hb]; exact hd4) (fun x hx => by
        have : c.exceptionTable = #[] := Array.isEmpty_iff.mp hno
        rw [this] at hx
        cases hx) hfr (show 2 * 0 + (1 + (rest.map fun v => v.category).sum) + (13 * (names.length + 1) + 42) ≤ R.locals by omega) hlocks
    have hold : ∀ z : Nat, z < T.heap.size → U.heap[z]? = T.heap[z]? := fun z hz => by
      have h9 := zx_keptAll hsame (q := z) (cell := T.heap[z]) (by rw [hhp]; exact Array.getElem?_eq_getElem hz)
      rw [Array.getElem?_eq_getElem hz]
      exact h9
    have hW2 : s.WarmedH U.vm := by rw [← hs'] at hW; exact hW
    have hsz2 : T.heap.size ≤ U.heap.size := by have := hsame.2.1; rw [hhp] at this; exact this
    refine ⟨U, hst, .threw T.heap.size, hrun, hend, hq U ce hce (by rw [KK.vm]; rfl) (by rw [← hvm]; exact KK.cls) hold hsz2 hW2, ⟨_, rfl⟩, hW2, locs, ?_, hf⟩
    rw [hvm, ← hs'] at hsame
    exact zx_same2 X0.same hsame
  exact K T rfl X1
end ZX
