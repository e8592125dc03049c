/-! the law's helpers: methods with handlers -/
def ws_L_encoding : List Cond := .codeWith y_L_encoding b_L_encoding 7 (some .int) [(0, 14, 17, 13), (0, 14, 21, 15)] :: zz_T
theorem q_w_L_encoding : Cond.codeWith y_L_encoding b_L_encoding 7 (some .int) [(0, 14, 17, 13), (0, 14, 21, 15)] ∈ zz_T := by decide +kernel
def ws_L_kind : List Cond := .codeWith y_L_kind b_L_kind 4 (some .int) [(0, 9, 12, 13)] :: zz_T
theorem q_w_L_kind : Cond.codeWith y_L_kind b_L_kind 4 (some .int) [(0, 9, 12, 13)] ∈ zz_T := by decide +kernel
def ws_L_tried : List Cond := .codeWith y_L_tried b_L_tried 5 (some .int) [(0, 10, 13, 13)] :: zz_T
theorem q_w_L_tried : Cond.codeWith y_L_tried b_L_tried 5 (some .int) [(0, 10, 13, 13)] ∈ zz_T := by decide +kernel
def ws_L_decode : List Cond := .codeWith y_L_decode b_L_decode 5 (some .int) [(0, 10, 13, 13)] :: zz_T
theorem q_w_L_decode : Cond.codeWith y_L_decode b_L_decode 5 (some .int) [(0, 10, 13, 13)] ∈ zz_T := by decide +kernel
def ws_L_tests : List Cond := .codeWith y_L_tests b_L_tests 4 (some .int) [(0, 9, 12, 13)] :: zz_T
theorem q_w_L_tests : Cond.codeWith y_L_tests b_L_tests 4 (some .int) [(0, 9, 12, 13)] ∈ zz_T := by decide +kernel
def ws_L_node : List Cond := .codeWith y_L_node b_L_node 5 (some .int) [(0, 10, 13, 34)] :: zz_T
theorem q_w_L_node : Cond.codeWith y_L_node b_L_node 5 (some .int) [(0, 10, 13, 34)] ∈ zz_T := by decide +kernel
def ws_L_listed : List Cond := .codeWith y_L_listed b_L_listed 5 (some .int) [(0, 10, 13, 34)] :: zz_T
theorem q_w_L_listed : Cond.codeWith y_L_listed b_L_listed 5 (some .int) [(0, 10, 13, 34)] ∈ zz_T := by decide +kernel
def ws_L_cost : List Cond := .codeWith y_L_cost b_L_cost 5 (some .int) [(0, 10, 13, 13)] :: zz_T
theorem q_w_L_cost : Cond.codeWith y_L_cost b_L_cost 5 (some .int) [(0, 10, 13, 13)] ∈ zz_T := by decide +kernel
def ws_L_feed : List Cond := .codeWith y_L_feed b_L_feed 4 (some .int) [(0, 9, 12, 13), (0, 9, 15, 15)] :: zz_T
theorem q_w_L_feed : Cond.codeWith y_L_feed b_L_feed 4 (some .int) [(0, 9, 12, 13), (0, 9, 15, 15)] ∈ zz_T := by decide +kernel
def ws_L_take : List Cond := .codeWith y_L_take b_L_take 4 (some .int) [(0, 9, 12, 13), (0, 9, 15, 48)] :: zz_T
theorem q_w_L_take : Cond.codeWith y_L_take b_L_take 4 (some .int) [(0, 9, 12, 13), (0, 9, 15, 48)] ∈ zz_T := by decide +kernel
theorem zz_gW {own : String} {idx : Nat} {y : MethodName} {bytes : ByteArray} {n : Nat} {r : Option FieldType} {hh : List (Nat × Nat × Nat × Nat)} {c0 : Cond} (hc : Cond.codeWith y bytes n r hh ∈ zz_T) : GoodIn (c0 :: zz_T) (.codeWith y bytes n r hh :: zz_T) := by
  have key : ∀ w ∈ (Cond.codeWith y bytes n r hh :: zz_T), w ∈ zz_T := by
    intro w hw
    rcases List.mem_cons.mp hw with rfl | hw
    · exact hc
    · exact hw
  exact fun w hw => ⟨List.mem_cons_of_mem _ (key w hw), zz_good w (key w hw)⟩
/-- what a static call of a method with handlers asks -/
def zx_CW (R : Room) (s : State) (args : Array Value) (own : String) (index : Nat) (y : MethodName) (bytes : ByteArray) (maxL : Nat) (ret : Option FieldType) (hh : List (Nat × Nat × Nat × Nat)) (ws : List Cond) (rm : Room) (mc ms n : Nat) : Prop :=
  rm.cells = mc ∧ rm.slots = ms ∧ rm.frames + 1 ≤ R.frames ∧ 8 + (maxL + 11) + rm.locals ≤ R.locals ∧ (∀ w ∈ ws, ∀ (a' : Array Value) (U : State), s.WarmedH U.vm → w.before a' U = true) ∧ Cond.codeWith y bytes maxL ret hh ∈ ws ∧
  (Cond.codeWith y bytes maxL ret hh).before args s = true ∧ (Cond.initialized y.cls).before args s = true ∧ (y.cls ≠ "java/lang/invoke/MethodHandle" ∧ y.cls ≠ "java/lang/invoke/VarHandle") ∧ (∀ sig, parseMethodDescriptor y.desc = some sig → n = sig.parameters.length) ∧ (Cond.methodLink own index y).before args s = true ∧ (Cond.static y).before args s = true
section ZL
variable {p : Program} {l : Launch} {e : Env} {R : Room} {s : State} {m : MethodId} {args : Array Value} {below : List Frame} {meth : Method} {c : Code} {H : Heap} {locs : List Loc} {cells slots : Nat} {Q : State → Prop}
variable {y : MethodName} {bytes cc : ByteArray} {maxL nL n index mc ms : Nat} {ret : Option FieldType} {hh : List (Nat × Nat × Nat × Nat)} {ws : List Cond} {rm : Room} {Ts : List Cond} {own : String} {As rest st0 : List Value} {pc : Nat} {ls : Array Slot} {D : va_G} {cl : List vw_C} {tys : List (ClassId × FieldType)} {wu wc wr w1 : va_W} {r : Int32} {A : Nat → Prop} {H0 : Heap} {X : (Nat → Prop) → State → Prop}
theorem zx_cwS {ws' : List Cond} (n : Nat) (ht : ∀ w ∈ Ts, w.before args s = true) (hG : GoodIn Ts ws) (hw : ws = Cond.codeWith y bytes maxL ret hh :: ws') (hrc : rm.cells = mc) (hrs : rm.slots = ms) (hini : (Cond.initialized y.cls).before args s = true) (hl : (Cond.methodLink own index y).before args s = true) (hs : (Cond.static y).before args s = true)
    (hd : y.cls ≠ "java/lang/invoke/MethodHandle" ∧ y.cls ≠ "java/lang/invoke/VarHandle" ∧ (parseMethodDescriptor y.desc).map (fun d => d.parameters.length) = some n) (hR : rm.frames + 1 ≤ R.frames ∧ 8 + (maxL + 11) + rm.locals ≤ R.locals) : zx_CW R s args own index y bytes maxL ret hh ws rm mc ms n := by
  have hc : Cond.codeWith y bytes maxL ret hh ∈ ws := by rw [hw]; exact List.mem_cons_self
  refine ⟨hrc, hrs, hR.1, hR.2, pay_in ht hG, hc, ht _ (hG _ hc).1, hini, ⟨hd.1, hd.2.1⟩, fun sig h => ?_, hl, hs⟩
  have h2 := hd.2.2
  rw [h] at h2
  exact (Option.some.inj h2).symm
theorem zx_runSW {Pc : Array Value → State → Prop} {Qc : Array Value → State → Outcome → State → Prop} {free : Addr → Prop} {g : JFrame} (S : CallFix p m c cc nL s args Ts own) (hM : Met l y ws rm Pc Qc mc ms free) (cw : zx_CW R s args own index y bytes maxL ret hh ws rm mc ms n) (hp : PreS s H Pc As)
    (hg : g.method = m) (hn : As.length = n) (hsize : g.locals.size = nL) (hstack : g.stack = As.reverse ++ rest) (hW : 2 * g.monitorRoom + (rest.map fun v => v.category).sum ≤ 8) (hdg : decode cc g.pc = .ok (.invokestatic index, 3)) (hf : cells + mc ≤ R.cells ∧ slots + ms ≤ R.slots) :
    va_Run p l e R s m args below meth c H locs cells slots mc ms g rest (Qc As.toArray) free := by
  obtain ⟨hrc, hrs, hfr, hlo, hws, hcw, hcode, hini, hy, hlen, hlk, hstt⟩ := cw
  have hK : Back l R p e below s args y 3 8 (PreOf R mc ms Pc) (PostOf Qc mc ms free) := va_backW (hh := hh) (bytes := bytes) (maxL := maxL) (ret := ret) hM hp.1 hrc hrs hfr hlo hws hcw (fun a' U hW => word_at hW (Or.inl (by first | rfl | simp [Cond.onTables, Cond.keeps, Cond.steady])) hini)
  obtain ⟨hx, hb, hml, ho, -⟩ := S
  intro T hT X9
  obtain ⟨mk, methM, cM, hnamed, hmethM, -, -, -, -, -, -, hsigM⟩ := Cond.codeWith_spec hcode
  have hstatic : methM.isStatic = true := Cond.static_spec hnamed hmethM hstt
  obtain ⟨kP, hkP, -⟩ := className_of_methodNamed hnamed
  have hinitP : kP.init = .initialized := Cond.initialized_spec (findClass_of_methodNamed hnamed) hkP hini
  obtain ⟨vm₁, X₁, hstep₁⟩ := X9.invokestatic hx ho hlk hnamed hmethM hstatic hkP hinitP hy (g := g) hg (argsL := As) (rest := rest) (hn.trans (hlen _ hsigM)) hstack (by rw [hb]; exact hdg)
  obtain ⟨v, ⟨U', l2, c2, s2⟩, X', ⟨g', mk', t, L, e1, e2, hq, h1, hL, h2, h3⟩, hsteps⟩ := hK m meth c ⟨T.setVm vm₁, locs, cells, slots⟩ { g with stack := rest } (.invokestatic index) mk As.toArray X₁ hg (hsize.trans hml.symm) (by rw [hb]; exact hdg) hW (X₁.named hnamed) ⟨hf.1, hf.2, hp.2 (T.setVm vm₁) hT X₁.warmed⟩
  dsimp only [Pt.U, Pt.locs, Pt.cells, Pt.slots] at X' e1 e2 h1 h2 h3 hsteps
  subst h1; subst h2; subst h3
  exact ⟨v, (T.setVm vm₁).calling g' mk' As.toArray, t, U', L, hT, X', hL, e1, e2, hq, fun target h => hstep₁ _ fun acts => by rw [doInvoke_state]; exact hsteps.trans h⟩
theorem zx_wS (S : CallFix p m c cc nL s args Ts own) (hM : Met l y ws rm (va_Pc As (zz_preW D cl tys wc H.size X)) (va_Qi (fun (z : Int32) (_ : Unit) => z = r) (fun _ => zz_post D cl tys (va_A wc H.size) w1) (va_A wc H.size)) mc ms (va_A wc H.size)) (cw : zx_CW R s args own index y bytes maxL ret hh ws rm mc ms n) (hbX : zz_blindX X) (hK : va_K D cl tys s) (hP : va_P D cl wu H) (hD : va_D A wu) (hS : va_S A H0 H locs) (hA : ∀ q, H0.size ≤ q → A q)
    (isC isR : List Nat) (hC : isC.map (fun i => wu[i]?) = wc.map some) (hR : isR.map (fun i => wu[i]?) = wr.map some) (hnC : va_nd isC = true) (hnR : va_nd isR = true) (hdis : ∀ i ∈ isR, i ∉ isC)
    (hXs : ∀ U : State, U.heap = H → s.WarmedH U.vm → (∀ q, va_A wc H.size q → A q) → X (va_A wc H.size) U)
    (hn : As.length = n) (hsize : ls.size = nL) (hst : st0 = As.reverse ++ rest) (hW : (rest.map fun v => v.category).sum ≤ 8) (hdg : decode cc pc = .ok (.invokestatic index, 3)) (hf : cells + mc ≤ R.cells ∧ slots + ms ≤ R.slots)
    (kk : ∀ (H1 : Heap) (locs1 : List Loc), va_P D cl (wr ++ w1) H1 → va_D A (wr ++ w1) → va_S A H0 H1 locs1 → W p l e R s m args below meth c H1 locs1 (cells + mc) (slots + ms) Q (F0 m (pc + 3) ls (.int r :: rest))) : W p l e R s m args below meth c H locs cells slots Q (F0 m pc ls st0) := by
  subst hst
  have hPc := zz_Psub hP isC hC
  have hDc := hD.sub isC hnC hC
  have hFc := va_free (wc := wc) hD hS hA isC hC
  refine va_calli (zx_runSW S hM cw ⟨zz_preW_blind hbX, fun U hU hW => ⟨rfl, by rw [hU], by rw [hU]; exact hPc, va_K.moved hW.alike hK, hDc.weaken (fun _ _ _ _ => trivial), hXs U hU hW hFc⟩⟩ rfl hn hsize rfl (lv_room hW) hdg hf) hS (fun q _ h => hFc q h) hFc (fun z u t H1 locs1 ht hvm hw hB hz1 hk1 hS1 => ?_)
  obtain ⟨hP1, hK1, hD1⟩ := hB
  rw [ht] at hP1
  obtain ⟨hP2, hD2⟩ := va_join (wr := wr) (w1 := w1) hP hD isC isR hC hR hnR hdis hk1 hFc hP1 hD1
  rw [show z = r from hw]
  exact kk H1 locs1 hP2 hD2 hS1
theorem zx_tab {x : MethodName} {hh : List (Nat × Nat × Nat × Nat)} {bytes : ByteArray} {maxL : Nat} {ret : Option FieldType} (hn : s.methodNamed? x = some m) (hm : s.vm.method? m = some meth) (hcd : meth.code = some c) (h : (Cond.codeWith x bytes maxL ret hh).before args s = true) : c.exceptionTable.toList.map (fun h => (h.startPc, h.endPc, h.handlerPc, h.catchType)) = hh := by
  obtain ⟨m', meth', c', h1, h2, h3, -, -, h4, -⟩ := Cond.codeWith_spec h
  cases hn.symm.trans h1
  cases hm.symm.trans h2
  cases hcd.symm.trans h3
  exact h4
/-- one row of handlers -/
theorem zx_h1 {f1 t1 p1 k1 : Nat} {r1 : List (Nat × Nat × Nat × Nat)} (h : c.exceptionTable.toList.map (fun h => (h.startPc, h.endPc, h.handlerPc, h.catchType)) = (f1, t1, p1, k1) :: r1) : ∃ x t, c.exceptionTable.toList = x :: t ∧ x.startPc = f1 ∧ x.endPc = t1 ∧ x.handlerPc = p1 ∧ x.catchType = k1 ∧ t.map (fun h => (h.startPc, h.endPc, h.handlerPc, h.catchType)) = r1 := by
  cases hl : c.exceptionTable.toList with
  | nil => rw [hl] at h; cases h
  | cons x t =>
    rw [hl] at h
    simp only [List.map_cons, List.cons.injEq, Prod.mk.injEq] at h
    exact ⟨x, t, rfl, h.1.1, h.1.2.1, h.1.2.2.1, h.1.2.2.2, h.2⟩
end ZL
