/-! THE CLAIM OUT OF ONE WALK OF THE LAW'S BODY. Your part is whole_start (and what it stands on); all else here is the same for every law, but numbers. -/
def R_law : String := "DecodeTestsLaw"
def lw_P (b : Addr) (xs : List Int32) (args : Array Value) (s : State) : Prop := args = #[.ref b] ∧ s.IntsAt b xs ∧ xs.length ≤ 2561 ∧ (Jvm.Cond.and given_1 narrow_1).before args s = true
def lw_Q (_ : Array Value) (s : State) (o : Outcome) (t : State) : Prop := o = .returned (some (.int 1)) ∧ Framed s o t [] 601024 7293000
def lw_Z (below : List Frame) (a : Array Value) (s : State) : State → Prop := fun t => ∃ o, t.status = .running ∧ Ended t below o ∧ lw_Q a s o t
/-- the law's own end, with 1 on the stack, nothing written that was there before, its room as the claim has it -/
theorem lw_ret {p : Program} {l : Launch} {e : Env} {s : State} {m : MethodId} {below : List Frame} {meth : Method} {c : Code} {b : Nat} (hx : p.tables.exec = Jvm.exec) (hb : c.code = code) (hr : meth.sig.returnType = ret) (hlocks : meth.locks = false) {pc : Nat} {H : Heap} {ls : Array Slot} (hdg : decode code pc = .ok (.ireturn, 1)) : W p l e room_1 s m #[Value.ref b] below meth c H [] 601024 7293000 (lw_Z below #[Value.ref b] s) (F0 m pc ls [.int 1]) := by
  intro T hT X
  obtain ⟨fs, hret, hrun, hended, hW, hframe⟩ := X.leave (v := some (.int 1)) (hlocks := hlocks) (fun h => by rw [hr] at h; cases h)
  have hmeth' : T.vm.method? m = some meth := X.method'
  refine ⟨T.setFrames fs, ?_, .returned (some (.int 1)), hrun, hended, rfl, ⟨_, rfl⟩, hW, hframe⟩
  jvm_step X.here [X.here.top, hx, hb, hdg, hmeth', hr, ret, narrow_b1]
  (try refine ⟨rfl, ?_⟩); (try refine ⟨rfl, ?_⟩)
  first | (intro acts; rw [hret _ acts rfl rfl rfl]) | rw [hret _ _ rfl rfl rfl]
  exact Steps.refl _
/-- what holds at the law's entry: the machine, the code, the tables' words (any of lw_tbl by 'hts w (by decide +kernel)'), the script of L ints xs at the cell b, what the Statement gives of the start (any of its parts by flat_of_before) -/
def lw_At (p : Program) (s : State) (m : MethodId) (meth : Method) (c : Code) (b L : Nat) (xs : Nat → Int32) : Prop :=
  p.tables.exec = Jvm.exec ∧ c.code = code ∧ meth.sig.returnType = ret ∧ c.maxLocals = 7 ∧ s.vm.findClass R_law = some m.cls ∧ (∀ w ∈ lw_tbl, w.before #[Value.ref b] s = true) ∧ va_X b L xs s s.heap ∧ b < s.heap.size ∧ meth.locks = false ∧ (Jvm.Cond.and given_1 narrow_1).before #[Value.ref b] s = true
set_option maxHeartbeats 4000000 in
set_option maxRecDepth 100000 in
theorem whole_start {p : Program} {e : Env} {s : State} {m : MethodId} {below : List Frame} {meth : Method} {c : Code} (l : Launch) (hl9 : ∀ e, l.admits e → e.platform.stackTraces = false) {b L : Nat} {xs : Nat → Int32} (hL : L ≤ 2561) (C0 : lw_At p s m meth c b L xs) : W p l e room_1 s m #[Value.ref b] below meth c s.heap [] 0 0 (lw_Z below #[Value.ref b] s) (entryFrame m ([Value.ref b] : List Value).toArray 7) := by
  obtain ⟨hx, hb, hr, hml, hown, hts0, hXs, hbl, hlocks, hgv⟩ := id C0
  have hT : ∀ w ∈ zz_T, w.before #[Value.ref b] s = true := fun w h => hts0 w (List.mem_filter.mp h).1
  have hold : ∀ a : Nat, a < s.heap.size → ¬ (fun q : Nat => s.heap.size ≤ q) a := fun a h => Nat.not_le.mpr h
  have hg := flat_of_before _ hgv
  obtain ⟨c0, i0, hKn0⟩ := u_known (C := "DecodeTests") (T := F_D) (N := 11) (n := 11) hT hin_D (hT _ q_inst_D)
  obtain ⟨c1, i1, hKn1⟩ := u_known (C := "DecodeTests$Encodings") (T := F_E) (N := 8) (n := 8) hT hin_E (hT _ q_inst_E)
  obtain ⟨c2, i2, hKn2⟩ := u_known (C := "DecodeTests$Kept") (T := F_K) (N := 4) (n := 4) hT hin_K (hT _ q_inst_K)
  obtain ⟨c3, i3, hKn3⟩ := u_known (C := "DecodeTests$Tables") (T := F_T) (N := 6) (n := 6) hT hin_T (hT _ q_inst_T)
  obtain ⟨c4, i4, hKn4⟩ := u_known (C := "DecodeTests$Tree") (T := F_R) (N := 8) (n := 8) hT hin_R (hT _ q_inst_R)
  obtain ⟨c5, i5, hKn5⟩ := u_known (C := "DecodeTests$Waiting") (T := F_W) (N := 3) (n := 3) hT hin_W (hT _ q_inst_W)
  obtain ⟨c6, i6, hKn6⟩ := u_known (C := "DecodeTestsModel") (T := F_M) (N := 32) (n := 32) hT hin_M (hT _ q_inst_M)
  obtain ⟨dC, dI, hKc⟩ : ∃ (dC : Nat → ClassId) (dI : Nat → Nat → Nat), ∀ (k : Nat) (q : vw_C), vwCl[k]? = some q → u_Kn s q.1 q.2.1 q.2.2 (dC k) (dI k) := by
    refine ⟨fun k => if k = 0 then c0 else if k = 1 then c1 else if k = 2 then c2 else if k = 3 then c3 else if k = 4 then c4 else if k = 5 then c5 else c6, fun k => if k = 0 then i0 else if k = 1 then i1 else if k = 2 then i2 else if k = 3 then i3 else if k = 4 then i4 else if k = 5 then i5 else i6, ?_⟩
    intro k q hq
    match k, hq with
    | 0, hq => cases hq; exact hKn0
    | 1, hq => cases hq; exact hKn1
    | 2, hq => cases hq; exact hKn2
    | 3, hq => cases hq; exact hKn3
    | 4, hq => cases hq; exact hKn4
    | 5, hq => cases hq; exact hKn5
    | 6, hq => cases hq; exact hKn6
    | k + 7, hq => simp [vwCl] at hq
  obtain ⟨cA, hA1, hA2⟩ := zL_arr .int (fun _ h => by cases h) (hT _ q_arr)
  obtain ⟨cL, hL1, hL2⟩ := zL_arr .long (fun _ h => by cases h) (hT _ q_arrL)
  have hK : va_K (dC, dI) vwCl [(cA, .int), (cL, .long)] s := ⟨hKc, fun k q h => by
    match k, h with
    | 0, h => cases h; exact ⟨hA1, hA2⟩
    | 1, h => cases h; exact ⟨hL1, hL2⟩
    | k + 2, h => simp at h⟩
  obtain ⟨t, ht1, ht2⟩ := va_Tof (tm := (.static "DecodeTests$Tables" "POWERS" "[I")) (ty := .int) (N := 9) (f := fun j => .int (nI (3 ^ j))) (A := fun q : Nat => s.heap.size ≤ q) (by decide) (hg (.arrayOf (.static "DecodeTests$Tables" "POWERS" "[I") .int) (by decide +kernel)) (va_eqt (hg (.eq (.length (.static "DecodeTests$Tables" "POWERS" "[I")) (.int 9)) (by decide +kernel))) (fun j hj => by
    rcases (show j = 0 ∨ j = 1 ∨ j = 2 ∨ j = 3 ∨ j = 4 ∨ j = 5 ∨ j = 6 ∨ j = 7 ∨ j = 8 by omega) with rfl | rfl | rfl | rfl | rfl | rfl | rfl | rfl | rfl
    · exact va_eqt (hg (.eq (.elem (.static "DecodeTests$Tables" "POWERS" "[I") (.int 0)) (.int 1)) (by decide +kernel))
    · exact va_eqt (hg (.eq (.elem (.static "DecodeTests$Tables" "POWERS" "[I") (.int 1)) (.int 3)) (by decide +kernel))
    · exact va_eqt (hg (.eq (.elem (.static "DecodeTests$Tables" "POWERS" "[I") (.int 2)) (.int 9)) (by decide +kernel))
    · exact va_eqt (hg (.eq (.elem (.static "DecodeTests$Tables" "POWERS" "[I") (.int 3)) (.int 27)) (by decide +kernel))
    · exact va_eqt (hg (.eq (.elem (.static "DecodeTests$Tables" "POWERS" "[I") (.int 4)) (.int 81)) (by decide +kernel))
    · exact va_eqt (hg (.eq (.elem (.static "DecodeTests$Tables" "POWERS" "[I") (.int 5)) (.int 243)) (by decide +kernel))
    · exact va_eqt (hg (.eq (.elem (.static "DecodeTests$Tables" "POWERS" "[I") (.int 6)) (.int 729)) (by decide +kernel))
    · exact va_eqt (hg (.eq (.elem (.static "DecodeTests$Tables" "POWERS" "[I") (.int 7)) (.int 2187)) (by decide +kernel))
    · exact va_eqt (hg (.eq (.elem (.static "DecodeTests$Tables" "POWERS" "[I") (.int 8)) (.int 6561)) (by decide +kernel))
    ) hold
  have hst : zz_st t (fun q : Nat => s.heap.size ≤ q) s := ⟨va_Zof (hts0 (.laysStatic "DecodeTests$Tables" "POWERS" "[I") (by decide +kernel)) (hT _ q_in_T) ht1 hold, ht2⟩
  have hxX : zx_X (fun q : Nat => s.heap.size ≤ q) s := ⟨zx_Sof (hts0 _ (by decide +kernel)) (hg _ (by decide +kernel)) hold, zx_Sof (hts0 _ (by decide +kernel)) (hg _ (by decide +kernel)) hold, fun w hw => zx_mv_ok (zx_ws_mv w hw) (Vm.Alike.refl s.vm) (hts0 w (zx_tblok.1 w hw)), fun q hq => by
    obtain ⟨-, -, -, a, -, -, -, -, -, hev⟩ := Cond.stringRef_spec hKn0.2.1 (hts0 _ (zx_tblok.2 q hq))
    exact ⟨a, vk_R.of (hts0 _ (zx_tblok.2 q hq)) hev⟩⟩
  have hns : ∀ w ∈ zx_ns, w.before #[] s = true := fun w hw => zx_mv_ok (zx_ns_mv w hw) (Vm.Alike.refl s.vm) (hg w (by
    simp only [zx_ns, List.mem_cons, List.not_mem_nil, or_false] at hw
    rcases hw with rfl | rfl <;> decide +kernel))
  have C : zL_C p l s m c b L t xs (fun q : Nat => s.heap.size ≤ q) (dC, dI) cA cL := ⟨hl9, hx, hb, hml, hown, fun w hw => by
    rcases List.mem_cons.mp hw with rfl | hw
    · exact hT _ q_in_L
    · exact hT w hw, hK, ⟨hst, hxX, hns⟩, hXs, hbl, Nat.not_le.mpr hbl, fun _ h => h, hL⟩
  have hl := lv_entry ([.ref b]) (n := 7) (Nat.le_of_ble_eq_true rfl)
  rw [lg_entry_eq]
  generalize (lg_sl ([.ref b]) ++ List.replicate (7 - (lg_sl ([.ref b])).length) Slot.unset).toArray = ls at hl ⊢
  have hl : lv_has ls 7 [(0, .ref b)] := hl
  refine wl_start C (va_Nw.of rfl (hts0 (.methodLinkNest "DecodeTests" 51 y_W_init "DecodeTests") (by decide +kernel))) (fun H locs ls k9 n9 hS h1 h2 => ?_) hl
  refine va_forget (fun q hq => hS.2.2 q hq) ?_
  refine W.widen (k := 601024) (n := 7293000) h1 h2 ?_
  refine lv_iconst (v := 1) hx hb d_L_law_829 (by decide) ?_
  exact lw_ret hx hb hr hlocks d_L_law_830
set_option maxHeartbeats 4000000 in
theorem lw_walk (l : Launch) (hl9 : ∀ e, l.admits e → e.platform.stackTraces = false) (b : Addr) (xs : List Int32) : MetFree l x (headSpec (Jvm.Cond.code x code maxLocals ret :: tables_1) room_1) (lw_P b xs) (fun _ _ _ _ _ => True) lw_Q := by
  refine MetFree.of_bodyS (code := code) (maxLocals := maxLocals) (ret := ret) (by decide) ?_ ?_
  · intro args s m h hn
    obtain ⟨meth, c, h1, h2, h3, h4, h5, h6, -, -⟩ := Cond.code_spec hn (atoms_spec (ws := Jvm.Cond.code x code maxLocals ret :: tables_1) h _ List.mem_cons_self)
    exact ⟨meth, c, h1, h2, h3, h4, h5, h6⟩
  · intro p e s m args below meth c s₁ B hml0 hP _
    obtain ⟨rfl, hx, hbd, hgv⟩ := hP
    obtain ⟨scr, harrAt, hlist, hof, hsmall⟩ := hx
    obtain ⟨hcb, hkn, -, -⟩ := State.arrayAt?_spec harrAt
    have hown : s.vm.findClass R_law = some m.cls := findClass_of_methodNamed B.named
    have hts0 : ∀ c ∈ (Jvm.Cond.code x code maxLocals ret :: tables_1), c.before #[Value.ref b] s = true := atoms_spec (ws := Jvm.Cond.code x code maxLocals ret :: tables_1) B.pre
    have hts : ∀ w ∈ lw_tbl, w.before #[Value.ref b] s = true := k2_hts_sels lw_privs (fun w hw => hts0 w (List.mem_cons_of_mem _ hw)) lw_privs_ok
    have hml : c.maxLocals = 7 := B.maxLocals_eq (hts0 _ List.mem_cons_self)
    have X₀ : Stand p l e room_1 s m #[Value.ref b] below meth c s₁ [] 0 0 := Stand.of_body B
    have hh0 : s₁.heap = s.heap := by rw [B.state]; rfl
    have hsz : scr.slots.size = xs.length := by rw [← Array.length_toList, hlist, List.length_map]
    have hval : ∀ j : Nat, j < xs.length → scr.slots[j]? = some (.int (xs.getD j 0)) := fun j hj => by
      rw [← Array.getElem?_toList, hlist]
      simp [hj]
    have hbl : b < s.heap.size := (Array.getElem?_eq_some_iff.mp hcb).1
    have hX : va_X b xs.length (fun j => xs.getD j 0) s s.heap := ⟨scr, hcb, hof, hkn, hsz, hval⟩
    have K : W p l e room_1 s m #[Value.ref b] below meth c s₁.heap [] 0 0 (lw_Z below #[Value.ref b] s) (entryFrame m ([Value.ref b] : List Value).toArray 7) := by
      rw [hh0]
      exact whole_start l hl9 hbd ⟨B.exec, B.bytes, B.returns, hml, hown, hts, hX, hbl, B.notSynchronized, hgv⟩
    obtain ⟨t, a1, o, b1, b2, b3⟩ := K s₁ rfl X₀
    exact ⟨t, o, a1, b1, b2, b3⟩
theorem lw_pre_spec {args : Array Value} {s : State} (h : (Jvm.Cond.and given_1 narrow_1).before args s = true) (hr : rest_1_c.before args s = true) : ∃ (b : Addr) (xs : List Int32), lw_P b xs args s := by
  have hs := flat_of_before _ h
  have hq := flat_of_before _ hr
  have hc : (Cond.count 1).before args s = true := hs _ (by decide +kernel)
  have harr : (Cond.arrayOf (.arg 0) .int).before args s = true := hs _ (by decide +kernel)
  have hle : (Cond.le (.length (.arg 0)) (.int 2561)).before args s = true := hs _ (by decide +kernel)
  have hlen : (Cond.isInt (.length (.arg 0))).before args s = true := hq _ (by decide +kernel)
  have hall : (Cond.all (.arg 0) (.isInt (.elem (.arg 0) (.index 0)))).before args s = true := hq _ (by decide +kernel)
  obtain ⟨b, xs, hb, hx⟩ := State.ints_of_pre rfl harr hlen hall
  have hsm : xs.length < 2 ^ 31 := hx.choose_spec.2.2.2
  have hev : (Term.length (.arg 0)).eval args s none [] s = some (.int xs.length.toInt32) := hx.length_eval hb
  have hv := Cond.le_ints hev (show (Term.int 2561).eval args s none [] s = some (.int 2561) from rfl)
  have hd : xs.length.toInt32 ≤ 2561 := by
    simpa [Cond.before, Cond.holds, hv] using hle
  have hN : xs.length ≤ 2561 := (Int32.ofNat_le_ofNat hsm (by decide)).mp (show Int32.ofNat xs.length ≤ Int32.ofNat 2561 from hd)
  exact ⟨b, xs, Cond.one_arg hc (show args[0]? = some (.ref b) from hb), hx, hN, h⟩
theorem lw_comes (l : Launch) (hl9 : ∀ e, l.admits e → e.platform.stackTraces = false) : Comes l x (Jvm.Cond.code x code maxLocals ret :: tables_1) room_1 (fun tb e args s => Calls_1 tb e args s ∧ rest_1 tb e args s ∧ Pre_1 tb e args s)
    (fun _ _ args s o t => lw_Q args s o t) := by
  intro p e ha hc hk s m args below hf hfit hheap happ hpre
  obtain ⟨b, xs, hP⟩ := lw_pre_spec hpre.2.2 hpre.2.1
  obtain ⟨k, o, h1, h2, h3, hQ⟩ := lw_walk l hl9 b xs p e ha hc hk s m args below hf ((Spec.applies_iff_loose hf).mp happ).1 hP trivial
  exact ⟨k, o, h1, h2, h3, hQ⟩
theorem lw_frame {s t : State} {o : Outcome} {args : Array Value} (h : Framed s o t [] 601024 7293000) :
    Framed s o t (fieldLocs frame_1_writes args s ++ arrayLocs frame_1_arrays args s ++ staticLocs frame_1_statics s) 601024 7293000 := h
theorem lw_flag {l : Launch} (h : l.flags = flags0) : ∀ e, l.admits e → e.platform.stackTraces = false := fun e ha => by
  have h1 := ha.2.2.2.2.1
  rw [h1]
  show l.stackTraces = false
  unfold Launch.stackTraces
  rw [h]
  decide
theorem lw_limb (L : Cond) (hL : ∀ (args : Array Value) (s t : State), L.after args s (.returned (some (.int 1))) t = true) :
    ArmFor flags0 classFile x code maxLocals ret World_1 tables_1 room_1 Calls_1 rest_1 Pre_1
      (fun tb e a s o t => postC L tb e a s o t ∧ Framed s o t (fieldLocs frame_1_writes a s ++ arrayLocs frame_1_arrays a s ++ staticLocs frame_1_statics s) 601024 7293000) := by
  intro l hfl _ _ p e ha hc hk s m args below hf hfit hheap happ hpre
  obtain ⟨k, o, h1, h2, h3, rfl, hF⟩ := lw_comes l (lw_flag hfl) p e ha hc hk s m args below hf hfit hheap happ hpre
  exact ⟨k, _, h1, h2, h3, hL args s _, lw_frame hF⟩
theorem i_vc : Claimed_1_1 ∧ Claimed_1_2 := ⟨lw_limb limb_1_1 (fun args s t => by simp [limb_1_1, Cond.after, Cond.holds, Cond.value]), lw_limb limb_1_2 (fun args s t => Cond.after_iff.mpr (by
  first | (rw [show limb_1_2 = Cond.eq .result (.int 1) from rfl, Cond.eq_ints (x := 1) (y := 1) rfl rfl]; simp; done) | (simp [limb_1_2, Cond.value, Term.eval]; done)))⟩
