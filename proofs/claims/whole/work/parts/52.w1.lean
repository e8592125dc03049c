abbrev zL_W (cA cL : ClassId) (aD aE aM aV aL aC aS aT aTc aTw aTt aR aRt aRz aRo aRd aRl aK aKw aKf aKa aW aWr aM0 bmk bvl bln bfl bal bls bli bon bmn bbt bwo bto bun bse bze bno bwa bpa bwd brw brf bra aO bw : Nat) (n : Nat) (un : Nat) (kind : Nat) (rn : Nat) (rl : Nat) (kn : Nat) (ws : Nat) (wn : Nat) (hits : Nat) (byt : Nat) (tst : Nat) (tak : Nat) (xth : Nat) (nd : Nat) (cur : Bool) (mk : Nat → Nat) (vl : Nat → Nat) (ln : Nat → Nat) (cd : Nat → Nat) (lz : Nat → Nat) (cm : Nat → Nat) (wo : Nat → Nat) (to : Nat → Nat) (tb : Nat → Nat) (zr : Nat → Nat) (on : Nat → Nat) (dp : Nat → Nat) (li : Nat → Nat) (kw : Nat → Nat) (kf : Nat → Nat) (ka : Nat → Nat) (rg : Nat → Nat) (li2 : Nat → Nat) (ls2 : Nat → Nat) (al2 : Nat → Nat) (on2 : Nat → Nat) (mn2 : Nat → Nat) (bt2 : Nat → Nat) (wo2 : Nat → Nat) (to2 : Nat → Nat) (se : Nat → Nat) (ze : Nat → Nat) (no : Nat → Nat) (wa : Nat → Nat) (pa : Nat → Nat) (wd : Nat → Nat) (fo : Nat → Int64) : va_W := [(aD, .inr (0, [.int (nI bw), .ref aE, .ref aT, .ref aR, .ref aK, .ref aW, .int (nI kind), .int (nI hits), .int (nI byt), .int (nI tst), .int (nI tak)])), (aE, .inr (1, [.int (nI (1 * 2 ^ bw)), .ref aM, .ref aV, .ref aL, .ref aC, .ref aS, .int (nI un), .int (nI n)])), (aM, .inl (cA, 14, .inl (fun j => nI (mk j)))), (aV, .inl (cA, 14, .inl (fun j => nI (vl j)))), (aL, .inl (cA, 14, .inl (fun j => nI (ln j)))), (aC, .inl (cA, 14, .inl (fun j => zz_o (cd j)))), (aS, .inl (cA, (1 * 2 ^ bw), .inl (fun j => nI (lz j)))), (aT, .inr (3, [.int (nI bw), .int (nI (3 ^ bw)), .ref aTc, .ref aTw, .ref aTt, .int (nI (zz_b cur))])), (aTc, .inl (cA, (3 ^ bw), .inl (fun j => zz_o (cm j)))), (aTw, .inl (cA, (3 ^ bw), .inl (fun j => nI (wo j)))), (aTt, .inl (cA, (3 ^ bw), .inl (fun j => nI (to j)))), (aR, .inr (4, [.int (nI bw), .ref aRt, .ref aRz, .ref aRo, .ref aRd, .ref aRl, .int (nI rn), .int (nI rl)])), (aRt, .inl (cA, (2 * 2 ^ bw - 1), .inl (fun j => zz_o (tb j)))), (aRz, .inl (cA, (2 * 2 ^ bw - 1), .inl (fun j => zz_o (zr j)))), (aRo, .inl (cA, (2 * 2 ^ bw - 1), .inl (fun j => zz_o (on j)))), (aRd, .inl (cA, (2 * 2 ^ bw - 1), .inl (fun j => nI (dp j)))), (aRl, .inl (cA, (2 * 2 ^ bw - 1), .inl (fun j => nI (li j)))), (aK, .inr (2, [.ref aKw, .ref aKf, .ref aKa, .int (nI kn)])), (aKw, .inl (cA, 16, .inl (fun j => zz_o (kw j)))), (aKf, .inl (cA, 16, .inl (fun j => nI (kf j)))), (aKa, .inl (cA, 16, .inl (fun j => zz_o (ka j)))), (aW, .inr (5, [.ref aWr, .int (nI ws), .int (nI wn)])), (aWr, .inl (cA, 64, .inl (fun j => nI (rg j)))), (aM0, .inr (6, [.int (nI xth), .int (nI bw), .int (nI n), .int (nI kind), .ref bmk, .ref bvl, .ref bln, .ref bfl, .ref bal, .ref bls, .ref bli, .ref bon, .ref bmn, .ref bbt, .ref bwo, .ref bto, .ref bun, .int (nI nd), .ref bse, .ref bze, .ref bno, .ref bwa, .ref bpa, .int (nI wn), .ref bwd, .int (nI hits), .int (nI byt), .int (nI tst), .int (nI tak), .ref brw, .ref brf, .ref bra])), (bmk, .inl (cA, 14, .inl (fun j => nI (mk j)))), (bvl, .inl (cA, 14, .inl (fun j => nI (vl j)))), (bln, .inl (cA, 14, .inl (fun j => nI (ln j)))), (bfl, .inl (cA, 14, .inl (fun j => zz_o (cd j)))), (bal, .inl (cA, 256, .inl (fun j => nI (al2 j)))), (bls, .inl (cA, 256, .inl (fun j => nI (ls2 j)))), (bli, .inl (cA, 3584, .inl (fun j => nI (li2 j)))), (bon, .inl (cA, 6561, .inl (fun j => zz_o (on2 j)))), (bmn, .inl (cA, 6561, .inl (fun j => nI (mn2 j)))), (bbt, .inl (cA, 19683, .inl (fun j => zz_o (bt2 j)))), (bwo, .inl (cA, 19683, .inl (fun j => nI (wo2 j)))), (bto, .inl (cA, 19683, .inl (fun j => nI (to2 j)))), (bun, .inl (cA, 9, .inl (fun j => nI (zM_u j)))), (bse, .inl (cA, 511, .inl (fun j => nI (se j)))), (bze, .inl (cA, 511, .inl (fun j => zz_o (ze j)))), (bno, .inl (cA, 511, .inl (fun j => zz_o (no j)))), (bwa, .inl (cA, 520, .inl (fun j => nI (wa j)))), (bpa, .inl (cA, 520, .inl (fun j => zz_o (pa j)))), (bwd, .inl (cA, 64, .inl (fun j => nI (wd j)))), (brw, .inl (cA, 16, .inl (fun j => zz_o (kw j)))), (brf, .inl (cA, 16, .inl (fun j => nI (kf j)))), (bra, .inl (cA, 16, .inl (fun j => zz_o (ka j)))), (aO, .inl (cL, 1, .inr (.inl fo)))]
/-- the law stands at pc, with i, both objects side by side -/
def zL_at (p : Program) (l : Launch) (e : Env) (s : State) (m : MethodId) (below : List Frame) (meth : Method) (c : Code) (Q : State → Prop) (b : Nat) (A : Nat → Prop) (D : va_G) (cA cL : ClassId) (aD aE aM aV aL aC aS aT aTc aTw aTt aR aRt aRz aRo aRd aRl aK aKw aKf aKa aW aWr aM0 bmk bvl bln bfl bal bls bli bon bmn bbt bwo bto bun bse bze bno bwa bpa bwd brw brf bra aO bw : Nat) (pc i k9 n9 : Nat) : Prop := ∀ (n : Nat) (un : Nat) (kind : Nat) (rn : Nat) (rl : Nat) (kn : Nat) (ws : Nat) (wn : Nat) (hits : Nat) (byt : Nat) (tst : Nat) (tak : Nat) (xth : Nat) (nd : Nat) (cur : Bool) (mk : Nat → Nat) (vl : Nat → Nat) (ln : Nat → Nat) (cd : Nat → Nat) (lz : Nat → Nat) (cm : Nat → Nat) (wo : Nat → Nat) (to : Nat → Nat) (tb : Nat → Nat) (zr : Nat → Nat) (on : Nat → Nat) (dp : Nat → Nat) (li : Nat → Nat) (kw : Nat → Nat) (kf : Nat → Nat) (ka : Nat → Nat) (rg : Nat → Nat) (li2 : Nat → Nat) (ls2 : Nat → Nat) (al2 : Nat → Nat) (on2 : Nat → Nat) (mn2 : Nat → Nat) (bt2 : Nat → Nat) (wo2 : Nat → Nat) (to2 : Nat → Nat) (se : Nat → Nat) (ze : Nat → Nat) (no : Nat → Nat) (wa : Nat → Nat) (pa : Nat → Nat) (wd : Nat → Nat), zP_I bw n un kind mk vl ln cd lz ((cm, wo, to), cur, (tb, zr, on, dp, li, rn, rl)) (kw, kf, ka, kn) ws wn rg li2 ls2 al2 (on2, mn2, bt2, wo2, to2) nd se ze no wd → ∀ (fo : Nat → Int64) (H : Heap) (locs : List Loc), va_P D vwCl (zL_W cA cL aD aE aM aV aL aC aS aT aTc aTw aTt aR aRt aRz aRo aRd aRl aK aKw aKf aKa aW aWr aM0 bmk bvl bln bfl bal bls bli bon bmn bbt bwo bto bun bse bze bno bwa bpa bwd brw brf bra aO bw n un kind rn rl kn ws wn hits byt tst tak xth nd cur mk vl ln cd lz cm wo to tb zr on dp li kw kf ka rg li2 ls2 al2 on2 mn2 bt2 wo2 to2 se ze no wa pa wd fo) H → va_D A (zL_W cA cL aD aE aM aV aL aC aS aT aTc aTw aTt aR aRt aRz aRo aRd aRl aK aKw aKf aKa aW aWr aM0 bmk bvl bln bfl bal bls bli bon bmn bbt bwo bto bun bse bze bno bwa bpa bwd brw brf bra aO bw n un kind rn rl kn ws wn hits byt tst tak xth nd cur mk vl ln cd lz cm wo to tb zr on dp li kw kf ka rg li2 ls2 al2 on2 mn2 bt2 wo2 to2 se ze no wa pa wd fo) → va_S A s.heap H locs → ∀ (ls : Array Slot), lv_has ls 7 [(0, .ref b), (1, .ref aD), (2, .ref aM0), (3, .ref aO), (4, .int (nI i))] → W p l e room_1 s m ([.ref b] : List Value).toArray below meth c H locs k9 n9 Q (F0 m pc ls [])
abbrev zL_c : Cond := Cond.initialized "DecodeTestsLaw"
/-- what holds all through the law -/
structure zL_C (p : Program) (l : Launch) (s : State) (m : MethodId) (c : Code) (b L t : Nat) (xs : Nat → Int32) (A : Nat → Prop) (D : va_G) (cA cL : ClassId) : Prop where
  hl9 : ∀ e, l.admits e → e.platform.stackTraces = false
  hx : p.tables.exec = Jvm.exec
  hb : c.code = b_L_law
  hml : c.maxLocals = 7
  hown : s.vm.findClass "DecodeTestsLaw" = some m.cls
  hts : ∀ w ∈ zL_c :: zz_T, w.before ([.ref b] : List Value).toArray s = true
  hK : va_K D vwCl [(cA, .int), (cL, .long)] s
  hX : zx_L t A s
  hXs : va_X b L xs s s.heap
  hbl : b < s.heap.size
  hbA : ¬ A b
  hA : ∀ q, s.heap.size ≤ q → A q
  hLL : L ≤ 2561
set_option maxHeartbeats 4000000 in
set_option maxRecDepth 100000 in
theorem c_L_cell (l : Launch) (D : va_G) (cA : ClassId) (b : Nat) (L : Nat) (xs : Nat → Int32) (hLL : L ≤ 2561) : Met l y_L_cell ws_L_cell ({ frames := 0, cells := 0, slots := 0, locals := 0 }) (va_Pc [.ref b, .int (nI 0)] (zz_pre D vwCl [(cA, .int)] [] (zL_X b L xs))) (QcRead (zL_c0 L xs)) 0 0 (fun _ => False) := by
  refine Met.ofW (cc := b_L_cell) (maxL := 2) (ret := (some .int)) (by decide) rfl ?_
  intro p e s m args below meth c s₁ B hml hv
  obtain ⟨rfl, hP, hK, hX⟩ := hv
  have hS : va_S (fun _ => False) s.heap s.heap [] := va_S.rf
  have hx := B.exec
  have hb := B.bytes
  have hr := B.returns
  have hts := atoms_spec (ws := ws_L_cell) B.pre
  have hown : s.vm.findClass "DecodeTestsLaw" = some m.cls := findClass_of_methodNamed B.named
  have hlocks := B.notSynchronized
  have hT : ∀ w9 ∈ zz_T, w9.before ([.ref b, .int (nI 0)] : List Value).toArray s = true := fun w9 h => hts w9 (List.mem_cons_of_mem _ h)
  have hl := lv_entry ([.ref b, .int (nI 0)]) (n := 2) (Nat.le_of_ble_eq_true rfl)
  rw [lg_entry_eq]
  generalize (lg_sl ([.ref b, .int (nI 0)]) ++ List.replicate (2 - (lg_sl ([.ref b, .int (nI 0)])).length) Slot.unset).toArray = ls at hl ⊢
  have hl : lv_has ls 2 [(0, .ref b), (1, .int (nI 0))] := hl
  have hX : va_X b L xs s s.heap := hX
  have hbl := zL_lt hX
  refine lv_iload_n hx hb d_L_cell_0 rfl (lv_at hl 1 rfl) ?_
  refine lv_aload_n hx hb d_L_cell_1 rfl (lv_at hl 0 rfl) ?_
  refine va_slen hx hb hX hbl (fun h => h) hS d_L_cell_2 ?_
  refine lv_icmp_ge (tgt := 12) hx hb d_L_cell_3 (by decide) (fun c3 => ?_) (fun c3 => ?_)
  · rw [zz_le (by omega) (by omega)] at c3
    refine lv_iconst (v := nI 0) hx hb d_L_cell_12 (by decide) ?_
    exact W.iret (v := nI 0) hx hb hr (fun t ht _ => zz_rd (by unfold zL_c0; first | rw [if_pos (by omega)] | rw [if_neg (by omega)]) ht) (fun _ h => by cases h) d_L_cell_13
  · rw [zz_le (by omega) (by omega)] at c3
    refine lv_aload_n hx hb d_L_cell_6 rfl (lv_at hl 0 rfl) ?_
    refine lv_iload_n hx hb d_L_cell_7 rfl (lv_at hl 1 rfl) ?_
    refine va_sld hx hb hX hbl (fun h => h) hS (i := nI 0) (vp_in_nI (n := L) (by omega) (by omega)) d_L_cell_8 ?_
    refine zz_top (y := xs 0) (rfl) ?_
    refine lv_goto (tgt := 13) hx hb d_L_cell_9 (by decide) ?_
    exact W.iret (v := xs 0) hx hb hr (fun t ht _ => zz_rd (by unfold zL_c0; first | rw [if_pos (by omega)] | rw [if_neg (by omega)]) ht) (fun _ h => by cases h) d_L_cell_13
