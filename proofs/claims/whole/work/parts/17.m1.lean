set_option maxHeartbeats 4000000 in
set_option maxRecDepth 100000 in
theorem c_M_thrown (l : Launch) (D : va_G) (cA : ClassId) (aM0 : Nat) (xth : Nat) (xw : Nat) (xn : Nat) (xk : Nat) (xnd : Nat) (xst : Nat) (xh : Nat) (xb : Nat) (xt : Nat) (xta : Nat) (bmk : Nat) (bvl : Nat) (bln : Nat) (bfl : Nat) (bal : Nat) (bls : Nat) (bli : Nat) (bon : Nat) (bmn : Nat) (bbt : Nat) (bwo : Nat) (bto : Nat) (bun : Nat) (bse : Nat) (bze : Nat) (bno : Nat) (bwa : Nat) (bpa : Nat) (bwd : Nat) (brw : Nat) (brf : Nat) (bra : Nat) : Met l y_M_thrown ws_M_thrown ({ frames := 0, cells := 0, slots := 0, locals := 0 }) (va_Pc [.ref aM0] (zz_pre D vwCl [(cA, .int)] [(aM0, .inr (6, [.int (nI xth), .int (nI xw), .int (nI xn), .int (nI xk), .ref bmk, .ref bvl, .ref bln, .ref bfl, .ref bal, .ref bls, .ref bli, .ref bon, .ref bmn, .ref bbt, .ref bwo, .ref bto, .ref bun, .int (nI xnd), .ref bse, .ref bze, .ref bno, .ref bwa, .ref bpa, .int (nI xst), .ref bwd, .int (nI xh), .int (nI xb), .int (nI xt), .int (nI xta), .ref brw, .ref brf, .ref bra]))] zz_nx)) (QcRead (nI xth)) 0 0 (fun _ => False) := by
  refine Met.ofW (cc := b_M_thrown) (maxL := 1) (ret := (some .int)) (by decide) rfl ?_
  intro p e s m args below meth c s₁ B hml hv
  obtain ⟨rfl, hP, hK, hX⟩ := hv
  have hS : va_S (fun _ => False) s.heap s.heap [] := va_S.rf
  have hx := B.exec
  have hb := B.bytes
  have hr := B.returns
  have hts := atoms_spec (ws := ws_M_thrown) B.pre
  have hown : s.vm.findClass "DecodeTestsModel" = some m.cls := findClass_of_methodNamed B.named
  have hlocks := B.notSynchronized
  have hT : ∀ w9 ∈ zz_T, w9.before ([.ref aM0] : List Value).toArray s = true := fun w9 h => hts w9 (List.mem_cons_of_mem _ h)
  have hl := lv_entry ([.ref aM0]) (n := 1) (Nat.le_of_ble_eq_true rfl)
  rw [lg_entry_eq]
  generalize (lg_sl ([.ref aM0]) ++ List.replicate (1 - (lg_sl ([.ref aM0])).length) Slot.unset).toArray = ls at hl ⊢
  have hl : lv_has ls 1 [(0, .ref aM0)] := hl
  refine lv_aload_n hx hb d_M_thrown_0 rfl (lv_at hl 0 rfl) ?_
  refine va_get (D := D) (ci := 6) (v := .int (nI xth)) (C := "DecodeTestsModel") (T := F_M) (N := 32) hx hb hT hin_M hown hK hP 0 rfl rfl 0 (by decide) (hT _ q_f_M_83) (fun _ h9 => h9) rfl d_M_thrown_1 ?_
  exact W.iret (v := nI xth) hx hb hr (fun t ht _ => zz_rd (rfl) ht) (fun _ h => by cases h) d_M_thrown_4

set_option maxHeartbeats 4000000 in
set_option maxRecDepth 100000 in
theorem c_M_fail (l : Launch) (D : va_G) (cA : ClassId) (aM0 : Nat) (xth : Nat) (xw : Nat) (xn : Nat) (xk : Nat) (xnd : Nat) (xst : Nat) (xh : Nat) (xb : Nat) (xt : Nat) (xta : Nat) (bmk : Nat) (bvl : Nat) (bln : Nat) (bfl : Nat) (bal : Nat) (bls : Nat) (bli : Nat) (bon : Nat) (bmn : Nat) (bbt : Nat) (bwo : Nat) (bto : Nat) (bun : Nat) (bse : Nat) (bze : Nat) (bno : Nat) (bwa : Nat) (bpa : Nat) (bwd : Nat) (brw : Nat) (brf : Nat) (bra : Nat) (c9 : Nat) (sz : Nat) : Met l y_M_fail ws_M_fail ({ frames := 0, cells := 0, slots := 0, locals := 0 }) (va_Pc [.ref aM0, .int (nI c9)] (zz_preW D vwCl [(cA, .int)] [(aM0, .inr (6, [.int (nI xth), .int (nI xw), .int (nI xn), .int (nI xk), .ref bmk, .ref bvl, .ref bln, .ref bfl, .ref bal, .ref bls, .ref bli, .ref bon, .ref bmn, .ref bbt, .ref bwo, .ref bto, .ref bun, .int (nI xnd), .ref bse, .ref bze, .ref bno, .ref bwa, .ref bpa, .int (nI xst), .ref bwd, .int (nI xh), .int (nI xb), .int (nI xt), .int (nI xta), .ref brw, .ref brf, .ref bra]))] sz zz_nx)) (va_Qi (fun (z : Int32) (_ : Unit) => z = nI 0) (fun _ => zz_post D vwCl [(cA, .int)] (va_A [(aM0, .inr (6, [.int (nI xth), .int (nI xw), .int (nI xn), .int (nI xk), .ref bmk, .ref bvl, .ref bln, .ref bfl, .ref bal, .ref bls, .ref bli, .ref bon, .ref bmn, .ref bbt, .ref bwo, .ref bto, .ref bun, .int (nI xnd), .ref bse, .ref bze, .ref bno, .ref bwa, .ref bpa, .int (nI xst), .ref bwd, .int (nI xh), .int (nI xb), .int (nI xt), .int (nI xta), .ref brw, .ref brf, .ref bra]))] sz) [(aM0, .inr (6, [.int (nI c9), .int (nI xw), .int (nI xn), .int (nI xk), .ref bmk, .ref bvl, .ref bln, .ref bfl, .ref bal, .ref bls, .ref bli, .ref bon, .ref bmn, .ref bbt, .ref bwo, .ref bto, .ref bun, .int (nI xnd), .ref bse, .ref bze, .ref bno, .ref bwa, .ref bpa, .int (nI xst), .ref bwd, .int (nI xh), .int (nI xb), .int (nI xt), .int (nI xta), .ref brw, .ref brf, .ref bra]))]) (va_A [(aM0, .inr (6, [.int (nI xth), .int (nI xw), .int (nI xn), .int (nI xk), .ref bmk, .ref bvl, .ref bln, .ref bfl, .ref bal, .ref bls, .ref bli, .ref bon, .ref bmn, .ref bbt, .ref bwo, .ref bto, .ref bun, .int (nI xnd), .ref bse, .ref bze, .ref bno, .ref bwa, .ref bpa, .int (nI xst), .ref bwd, .int (nI xh), .int (nI xb), .int (nI xt), .int (nI xta), .ref brw, .ref brf, .ref bra]))] sz)) 0 0 (va_A [(aM0, .inr (6, [.int (nI xth), .int (nI xw), .int (nI xn), .int (nI xk), .ref bmk, .ref bvl, .ref bln, .ref bfl, .ref bal, .ref bls, .ref bli, .ref bon, .ref bmn, .ref bbt, .ref bwo, .ref bto, .ref bun, .int (nI xnd), .ref bse, .ref bze, .ref bno, .ref bwa, .ref bpa, .int (nI xst), .ref bwd, .int (nI xh), .int (nI xb), .int (nI xt), .int (nI xta), .ref brw, .ref brf, .ref bra]))] sz) := by
  refine Met.ofW (cc := b_M_fail) (maxL := 2) (ret := (some .int)) (by decide) rfl ?_
  intro p e s m args below meth c s₁ B hml hv
  obtain ⟨rfl, hsz, hP, hK, hD0, hX⟩ := hv
  have hx := B.exec
  have hb := B.bytes
  have hr := B.returns
  have hts := atoms_spec (ws := ws_M_fail) B.pre
  have hown : s.vm.findClass "DecodeTestsModel" = some m.cls := findClass_of_methodNamed B.named
  have hlocks := B.notSynchronized
  have hT : ∀ w9 ∈ zz_T, w9.before ([.ref aM0, .int (nI c9)] : List Value).toArray s = true := fun w9 h => hts w9 (List.mem_cons_of_mem _ h)
  subst hsz
  have hD := hD0.self (sz := s.heap.size)
  generalize hAe : va_A [(aM0, .inr (6, [.int (nI xth), .int (nI xw), .int (nI xn), .int (nI xk), .ref bmk, .ref bvl, .ref bln, .ref bfl, .ref bal, .ref bls, .ref bli, .ref bon, .ref bmn, .ref bbt, .ref bwo, .ref bto, .ref bun, .int (nI xnd), .ref bse, .ref bze, .ref bno, .ref bwa, .ref bpa, .int (nI xst), .ref bwd, .int (nI xh), .int (nI xb), .int (nI xt), .int (nI xta), .ref brw, .ref brf, .ref bra]))] s.heap.size = A at hD hX ⊢
  have hA : ∀ q : Nat, s.heap.size ≤ q → A q := fun q h => by rw [← hAe]; exact Or.inr h
  have hS : va_S A s.heap s.heap [] := va_S.rf
  have hl := lv_entry ([.ref aM0, .int (nI c9)]) (n := 2) (Nat.le_of_ble_eq_true rfl)
  rw [lg_entry_eq]
  generalize (lg_sl ([.ref aM0, .int (nI c9)]) ++ List.replicate (2 - (lg_sl ([.ref aM0, .int (nI c9)])).length) Slot.unset).toArray = ls at hl ⊢
  have hl : lv_has ls 2 [(0, .ref aM0), (1, .int (nI c9))] := hl
  refine lv_aload_n hx hb d_M_fail_0 rfl (lv_at hl 0 rfl) ?_
  refine lv_iload_n hx hb d_M_fail_1 rfl (lv_at hl 1 rfl) ?_
  refine va_put (D := D) (ci := 6) (v := .int (nI c9)) (ty := .int) (C := "DecodeTestsModel") (T := F_M) (N := 32) hx hb hT hin_M ft_M ft_M_ok n_M hown hK hP hD hS 0 rfl rfl 0 (by decide) (hT _ q_f_M_83) (fun _ h9 => h9) rfl (by decide +kernel) rfl rfl (Nat.le_of_ble_eq_true rfl) d_M_fail_2 (fun H locs hP hD hS => ?_)
  have hP : va_P D vwCl [(aM0, .inr (6, [.int (nI c9), .int (nI xw), .int (nI xn), .int (nI xk), .ref bmk, .ref bvl, .ref bln, .ref bfl, .ref bal, .ref bls, .ref bli, .ref bon, .ref bmn, .ref bbt, .ref bwo, .ref bto, .ref bun, .int (nI xnd), .ref bse, .ref bze, .ref bno, .ref bwa, .ref bpa, .int (nI xst), .ref bwd, .int (nI xh), .int (nI xb), .int (nI xt), .int (nI xta), .ref brw, .ref brf, .ref bra]))] H := hP
  have hD : va_D A [(aM0, .inr (6, [.int (nI c9), .int (nI xw), .int (nI xn), .int (nI xk), .ref bmk, .ref bvl, .ref bln, .ref bfl, .ref bal, .ref bls, .ref bli, .ref bon, .ref bmn, .ref bbt, .ref bwo, .ref bto, .ref bun, .int (nI xnd), .ref bse, .ref bze, .ref bno, .ref bwa, .ref bpa, .int (nI xst), .ref bwd, .int (nI xh), .int (nI xb), .int (nI xt), .int (nI xta), .ref brw, .ref brf, .ref bra]))] := hD
  refine lv_iconst (v := nI 0) hx hb d_M_fail_5 (by decide) ?_
  have hP : va_P D vwCl [(aM0, .inr (6, [.int (nI c9), .int (nI xw), .int (nI xn), .int (nI xk), .ref bmk, .ref bvl, .ref bln, .ref bfl, .ref bal, .ref bls, .ref bli, .ref bon, .ref bmn, .ref bbt, .ref bwo, .ref bto, .ref bun, .int (nI xnd), .ref bse, .ref bze, .ref bno, .ref bwa, .ref bpa, .int (nI xst), .ref bwd, .int (nI xh), .int (nI xb), .int (nI xt), .int (nI xta), .ref brw, .ref brf, .ref bra]))] H := hP
  have hD : va_D A [(aM0, .inr (6, [.int (nI c9), .int (nI xw), .int (nI xn), .int (nI xk), .ref bmk, .ref bvl, .ref bln, .ref bfl, .ref bal, .ref bls, .ref bli, .ref bon, .ref bmn, .ref bbt, .ref bwo, .ref bto, .ref bun, .int (nI xnd), .ref bse, .ref bze, .ref bno, .ref bwa, .ref bpa, .int (nI xst), .ref bwd, .int (nI xh), .int (nI xb), .int (nI xt), .int (nI xta), .ref brw, .ref brf, .ref bra]))] := hD
  exact W.iret (v := nI 0) hx hb hr (fun t ht hW => ⟨⟨_, (), rfl, rfl, by rw [ht]; exact hP, va_K.moved hW.alike hK, hD⟩, hS.F ht⟩) hS.2.2 d_M_fail_6

set_option maxHeartbeats 4000000 in
set_option maxRecDepth 100000 in
theorem c_M_within (l : Launch) (D : va_G) (cA : ClassId) (v9 : Int32) (lo9 : Int32) (hi9 : Int32) : Met l y_M_within ws_M_within ({ frames := 0, cells := 0, slots := 0, locals := 0 }) (va_Pc [.int v9, .int lo9, .int hi9] (zz_pre D vwCl [(cA, .int)] [] zz_nx)) (QcRead (nI (zz_b (zM_in v9 lo9 hi9)))) 0 0 (fun _ => False) := by
  refine Met.ofW (cc := b_M_within) (maxL := 3) (ret := (some .boolean)) (by decide) rfl ?_
  intro p e s m args below meth c s₁ B hml hv
  obtain ⟨rfl, hP, hK, hX⟩ := hv
  have hS : va_S (fun _ => False) s.heap s.heap [] := va_S.rf
  have hx := B.exec
  have hb := B.bytes
  have hr := B.returns
  have hts := atoms_spec (ws := ws_M_within) B.pre
  have hown : s.vm.findClass "DecodeTestsModel" = some m.cls := findClass_of_methodNamed B.named
  have hlocks := B.notSynchronized
  have hT : ∀ w9 ∈ zz_T, w9.before ([.int v9, .int lo9, .int hi9] : List Value).toArray s = true := fun w9 h => hts w9 (List.mem_cons_of_mem _ h)
  have hl := lv_entry ([.int v9, .int lo9, .int hi9]) (n := 3) (Nat.le_of_ble_eq_true rfl)
  rw [lg_entry_eq]
  generalize (lg_sl ([.int v9, .int lo9, .int hi9]) ++ List.replicate (3 - (lg_sl ([.int v9, .int lo9, .int hi9])).length) Slot.unset).toArray = ls at hl ⊢
  have hl : lv_has ls 3 [(0, .int v9), (1, .int lo9), (2, .int hi9)] := hl
  refine lv_iload_n hx hb d_M_within_0 rfl (lv_at hl 0 rfl) ?_
  refine lv_iload_n hx hb d_M_within_1 rfl (lv_at hl 1 rfl) ?_
  refine lv_icmp_lt (tgt := 14) hx hb d_M_within_2 (by decide) (fun c2 => ?_) (fun c2 => ?_)
  · refine lv_iconst (v := nI 0) hx hb d_M_within_14 (by decide) ?_
    exact W.zret (v := nI 0) (ty := .boolean) hx hb hr rfl (fun t ht _ => zz_rd (by simp_all [zM_in, zz_b]) ht) (fun _ h => by cases h) d_M_within_15
  · refine lv_iload_n hx hb d_M_within_5 rfl (lv_at hl 0 rfl) ?_
    refine lv_iload_n hx hb d_M_within_6 rfl (lv_at hl 2 rfl) ?_
    refine lv_icmp_gt (tgt := 14) hx hb d_M_within_7 (by decide) (fun c7 => ?_) (fun c7 => ?_)
    · refine lv_iconst (v := nI 0) hx hb d_M_within_14 (by decide) ?_
      exact W.zret (v := nI 0) (ty := .boolean) hx hb hr rfl (fun t ht _ => zz_rd (by simp_all [zM_in, zz_b]) ht) (fun _ h => by cases h) d_M_within_15
    · refine lv_iconst (v := nI 1) hx hb d_M_within_10 (by decide) ?_
      refine lv_goto (tgt := 15) hx hb d_M_within_11 (by decide) ?_
      exact W.zret (v := nI 1) (ty := .boolean) hx hb hr rfl (fun t ht _ => zz_rd (by simp_all [zM_in, zz_b]) ht) (fun _ h => by cases h) d_M_within_15

set_option maxHeartbeats 4000000 in
set_option maxRecDepth 100000 in
theorem c_M_isWord (l : Launch) (D : va_G) (cA : ClassId) (aM0 : Nat) (xth : Nat) (xw : Nat) (xn : Nat) (xk : Nat) (xnd : Nat) (xst : Nat) (xh : Nat) (xb : Nat) (xt : Nat) (xta : Nat) (bmk : Nat) (bvl : Nat) (bln : Nat) (bfl : Nat) (bal : Nat) (bls : Nat) (bli : Nat) (bon : Nat) (bmn : Nat) (bbt : Nat) (bwo : Nat) (bto : Nat) (bun : Nat) (bse : Nat) (bze : Nat) (bno : Nat) (bwa : Nat) (bpa : Nat) (bwd : Nat) (brw : Nat) (brf : Nat) (bra : Nat) (x : Int32) (hW : xw ≤ 8) : Met l y_M_isWord ws_M_isWord ({ frames := 1, cells := 0, slots := 0, locals := 22 }) (va_Pc [.ref aM0, .int x] (zz_pre D vwCl [(cA, .int)] [(aM0, .inr (6, [.int (nI xth), .int (nI xw), .int (nI xn), .int (nI xk), .ref bmk, .ref bvl, .ref bln, .ref bfl, .ref bal, .ref bls, .ref bli, .ref bon, .ref bmn, .ref bbt, .ref bwo, .ref bto, .ref bun, .int (nI xnd), .ref bse, .ref bze, .ref bno, .ref bwa, .ref bpa, .int (nI xst), .ref bwd, .int (nI xh), .int (nI xb), .int (nI xt), .int (nI xta), .ref brw, .ref brf, .ref bra]))] zz_nx)) (QcRead (nI (zz_b (zM_in x (nI 0) (nI (1 * 2 ^ xw - 1)))))) 0 0 (fun _ => False) := by
  refine Met.ofW (cc := b_M_isWord) (maxL := 2) (ret := (some .boolean)) (by decide) rfl ?_
  intro p e s m args below meth c s₁ B hml hv
  obtain ⟨rfl, hP, hK, hX⟩ := hv
  have hS : va_S (fun _ => False) s.heap s.heap [] := va_S.rf
  have hx := B.exec
  have hb := B.bytes
  have hr := B.returns
  have hts := atoms_spec (ws := ws_M_isWord) B.pre
  have hown : s.vm.findClass "DecodeTestsModel" = some m.cls := findClass_of_methodNamed B.named
  have hlocks := B.notSynchronized
  have hT : ∀ w9 ∈ zz_T, w9.before ([.ref aM0, .int x] : List Value).toArray s = true := fun w9 h => hts w9 (List.mem_cons_of_mem _ h)
  have hl := lv_entry ([.ref aM0, .int x]) (n := 2) (Nat.le_of_ble_eq_true rfl)
  rw [lg_entry_eq]
  generalize (lg_sl ([.ref aM0, .int x]) ++ List.replicate (2 - (lg_sl ([.ref aM0, .int x])).length) Slot.unset).toArray = ls at hl ⊢
  have hl : lv_has ls 2 [(0, .ref aM0), (1, .int x)] := hl
  have p2 := zz_2le (a := 1) hW
  have p1 : 1 ≤ 1 * 2 ^ xw := by have := Nat.two_pow_pos xw; omega
  refine lv_iload_n hx hb d_M_isWord_0 rfl (lv_at hl 1 rfl) ?_
  refine lv_iconst (v := nI 0) hx hb d_M_isWord_1 (by decide) ?_
  refine lv_iconst (v := nI 1) hx hb d_M_isWord_2 (by decide) ?_
  refine lv_aload_n hx hb d_M_isWord_3 rfl (lv_at hl 0 rfl) ?_
  refine va_get (D := D) (ci := 6) (v := .int (nI xw)) (C := "DecodeTestsModel") (T := F_M) (N := 32) hx hb hT hin_M hown hK hP 0 rfl rfl 1 (by decide) (hT _ q_f_M_76) (fun _ h9 => h9) rfl d_M_isWord_4 ?_
  refine lv_ishl hx hb d_M_isWord_7 ?_
  refine zz_top (y := nI (1 * 2 ^ xw)) (zz_shl (by omega) (by omega)) ?_
  refine lv_iconst (v := nI 1) hx hb d_M_isWord_8 (by decide) ?_
  refine lv_isub hx hb d_M_isWord_9 ?_
  refine zz_top (y := nI (1 * 2 ^ xw - 1)) (pk_sub (by omega)) ?_
  refine zz_rS (As := [.int x, .int (nI 0), .int (nI (1 * 2 ^ xw - 1))]) (rest := []) (r := nI (zz_b (zM_in x (nI 0) (nI (1 * 2 ^ xw - 1))))) ⟨hx, hb, hml, hown, hts⟩ (c_M_within l _ _ x (nI 0) (nI (1 * 2 ^ xw - 1))) (va_cwS 3 hts g_M_isWord_86 rfl rfl rfl k_M_within.2 ⟨show 0 + 1 ≤ 1 by omega, show 8 + (3 + 11) + 0 ≤ 22 by omega⟩) (zz_blind_nx) hK (hP.sub (ws' := []) [] rfl) (fun _ _ _ => trivial) rfl hl.1 rfl (Nat.le_of_ble_eq_true rfl) d_M_isWord_10 ⟨Nat.zero_le _, Nat.zero_le _⟩ ?_
  exact W.zret (v := nI (zz_b (zM_in x (nI 0) (nI (1 * 2 ^ xw - 1))))) (ty := .boolean) hx hb hr (by cases zM_in x (nI 0) (nI (1 * 2 ^ xw - 1)) <;> rfl) (fun t ht _ => zz_rd (rfl) ht) (fun _ h => by cases h) d_M_isWord_13

set_option maxHeartbeats 4000000 in
set_option maxRecDepth 100000 in
theorem c_M_fits (l : Launch) (D : va_G) (cA : ClassId) (aM0 : Nat) (xth : Nat) (xw : Nat) (xn : Nat) (xk : Nat) (xnd : Nat) (xst : Nat) (xh : Nat) (xb : Nat) (xt : Nat) (xta : Nat) (bmk : Nat) (bvl : Nat) (bln : Nat) (bfl : Nat) (bal : Nat) (bls : Nat) (bli : Nat) (bon : Nat) (bmn : Nat) (bbt : Nat) (bwo : Nat) (bto : Nat) (bun : Nat) (bse : Nat) (bze : Nat) (bno : Nat) (bwa : Nat) (bpa : Nat) (bwd : Nat) (brw : Nat) (brf : Nat) (bra : Nat) (fmk : Nat → Nat) (fvl : Nat → Nat) (w : Nat) (k : Nat) (hmk : ∀ j, fmk j < 256) (hvl : ∀ j, fvl j < 256) (hk : k < 14) (hw : w < 256) : Met l y_M_fits ws_M_fits ({ frames := 0, cells := 0, slots := 0, locals := 0 }) (va_Pc [.ref aM0, .int (nI w), .int (nI k)] (zz_pre D vwCl [(cA, .int)] [(aM0, .inr (6, [.int (nI xth), .int (nI xw), .int (nI xn), .int (nI xk), .ref bmk, .ref bvl, .ref bln, .ref bfl, .ref bal, .ref bls, .ref bli, .ref bon, .ref bmn, .ref bbt, .ref bwo, .ref bto, .ref bun, .int (nI xnd), .ref bse, .ref bze, .ref bno, .ref bwa, .ref bpa, .int (nI xst), .ref bwd, .int (nI xh), .int (nI xb), .int (nI xt), .int (nI xta), .ref brw, .ref brf, .ref bra])), (bmk, .inl (cA, 14, .inl (fun j => nI (fmk j)))), (bvl, .inl (cA, 14, .inl (fun j => nI (fvl j))))] zz_nx)) (QcRead (nI (zz_b (zE_fit fmk fvl w k)))) 0 0 (fun _ => False) := by
  refine Met.ofW (cc := b_M_fits) (maxL := 3) (ret := (some .boolean)) (by decide) rfl ?_
  intro p e s m args below meth c s₁ B hml hv
  obtain ⟨rfl, hP, hK, hX⟩ := hv
  have hS : va_S (fun _ => False) s.heap s.heap [] := va_S.rf
  have hx := B.exec
  have hb := B.bytes
  have hr := B.returns
  have hts := atoms_spec (ws := ws_M_fits) B.pre
  have hown : s.vm.findClass "DecodeTestsModel" = some m.cls := findClass_of_methodNamed B.named
  have hlocks := B.notSynchronized
  have hT : ∀ w9 ∈ zz_T, w9.before ([.ref aM0, .int (nI w), .int (nI k)] : List Value).toArray s = true := fun w9 h => hts w9 (List.mem_cons_of_mem _ h)
  have hl := lv_entry ([.ref aM0, .int (nI w), .int (nI k)]) (n := 3) (Nat.le_of_ble_eq_true rfl)
  rw [lg_entry_eq]
  generalize (lg_sl ([.ref aM0, .int (nI w), .int (nI k)]) ++ List.replicate (3 - (lg_sl ([.ref aM0, .int (nI w), .int (nI k)])).length) Slot.unset).toArray = ls at hl ⊢
  have hl : lv_has ls 3 [(0, .ref aM0), (1, .int (nI w)), (2, .int (nI k))] := hl
  have b1 : w &&& fmk k < 256 := zz_and_lt (hmk k)
  have b2 := hvl k
  refine lv_iload_n hx hb d_M_fits_0 rfl (lv_at hl 1 rfl) ?_
  refine lv_aload_n hx hb d_M_fits_1 rfl (lv_at hl 0 rfl) ?_
  refine va_get (D := D) (ci := 6) (v := .ref bmk) (C := "DecodeTestsModel") (T := F_M) (N := 32) hx hb hT hin_M hown hK hP 0 rfl rfl 4 (by decide) (hT _ q_f_M_7) (fun _ h9 => h9) rfl d_M_fits_2 ?_
  refine lv_iload_n hx hb d_M_fits_5 rfl (lv_at hl 2 rfl) ?_
  refine zz_iald hx hb hK hP 1 0 rfl rfl (j := k) (by omega) (by omega) d_M_fits_6 ?_
  refine zz_top (y := nI (fmk k)) rfl ?_
  refine lv_iand hx hb d_M_fits_7 ?_
  refine zz_top (y := nI (w &&& (fmk k))) (zz_and w (fmk k)) ?_
  refine lv_aload_n hx hb d_M_fits_8 rfl (lv_at hl 0 rfl) ?_
  refine va_get (D := D) (ci := 6) (v := .ref bvl) (C := "DecodeTestsModel") (T := F_M) (N := 32) hx hb hT hin_M hown hK hP 0 rfl rfl 5 (by decide) (hT _ q_f_M_13) (fun _ h9 => h9) rfl d_M_fits_9 ?_
  refine lv_iload_n hx hb d_M_fits_12 rfl (lv_at hl 2 rfl) ?_
  refine zz_iald hx hb hK hP 2 0 rfl rfl (j := k) (by omega) (by omega) d_M_fits_13 ?_
  refine zz_top (y := nI (fvl k)) rfl ?_
  refine lv_icmp_ne (tgt := 21) hx hb d_M_fits_14 (by decide) (fun c14 => ?_) (fun c14 => ?_)
  · rw [zz_eq (by omega) (by omega)] at c14
    refine lv_iconst (v := nI 0) hx hb d_M_fits_21 (by decide) ?_
    exact W.zret (v := nI 0) (ty := .boolean) hx hb hr rfl (fun t ht _ => zz_rd (by simp [zE_fit, zz_b, c14]) ht) (fun _ h => by cases h) d_M_fits_22
  · rw [zz_eq (by omega) (by omega)] at c14
    refine lv_iconst (v := nI 1) hx hb d_M_fits_17 (by decide) ?_
    refine lv_goto (tgt := 22) hx hb d_M_fits_18 (by decide) ?_
    exact W.zret (v := nI 1) (ty := .boolean) hx hb hr rfl (fun t ht _ => zz_rd (by simp [zE_fit, zz_b, c14]) ht) (fun _ h => by cases h) d_M_fits_22

set_option maxHeartbeats 4000000 in
set_option maxRecDepth 100000 in
theorem c_M_digit (l : Launch) (D : va_G) (cA : ClassId) (aM0 : Nat) (xth : Nat) (xw : Nat) (xn : Nat) (xk : Nat) (xnd : Nat) (xst : Nat) (xh : Nat) (xb : Nat) (xt : Nat) (xta : Nat) (bmk : Nat) (bvl : Nat) (bln : Nat) (bfl : Nat) (bal : Nat) (bls : Nat) (bli : Nat) (bon : Nat) (bmn : Nat) (bbt : Nat) (bwo : Nat) (bto : Nat) (bun : Nat) (bse : Nat) (bze : Nat) (bno : Nat) (bwa : Nat) (bpa : Nat) (bwd : Nat) (brw : Nat) (brf : Nat) (bra : Nat) (s9 : Nat) (b : Nat) (hs : s9 < 2 ^ 31) (hb9 : b < 9) : Met l y_M_digit ws_M_digit ({ frames := 0, cells := 0, slots := 0, locals := 0 }) (va_Pc [.ref aM0, .int (nI s9), .int (nI b)] (zz_pre D vwCl [(cA, .int)] [(aM0, .inr (6, [.int (nI xth), .int (nI xw), .int (nI xn), .int (nI xk), .ref bmk, .ref bvl, .ref bln, .ref bfl, .ref bal, .ref bls, .ref bli, .ref bon, .ref bmn, .ref bbt, .ref bwo, .ref bto, .ref bun, .int (nI xnd), .ref bse, .ref bze, .ref bno, .ref bwa, .ref bpa, .int (nI xst), .ref bwd, .int (nI xh), .int (nI xb), .int (nI xt), .int (nI xta), .ref brw, .ref brf, .ref bra])), (bun, .inl (cA, 9, .inl (fun j => nI (zM_u j))))] zz_nx)) (QcRead (nI (zM_dg s9 b))) 0 0 (fun _ => False) := by
  refine Met.ofW (cc := b_M_digit) (maxL := 3) (ret := (some .int)) (by decide) rfl ?_
  intro p e s m args below meth c s₁ B hml hv
  obtain ⟨rfl, hP, hK, hX⟩ := hv
  have hS : va_S (fun _ => False) s.heap s.heap [] := va_S.rf
  have hx := B.exec
  have hb := B.bytes
  have hr := B.returns
  have hts := atoms_spec (ws := ws_M_digit) B.pre
  have hown : s.vm.findClass "DecodeTestsModel" = some m.cls := findClass_of_methodNamed B.named
  have hlocks := B.notSynchronized
  have hT : ∀ w9 ∈ zz_T, w9.before ([.ref aM0, .int (nI s9), .int (nI b)] : List Value).toArray s = true := fun w9 h => hts w9 (List.mem_cons_of_mem _ h)
  have hl := lv_entry ([.ref aM0, .int (nI s9), .int (nI b)]) (n := 3) (Nat.le_of_ble_eq_true rfl)
  rw [lg_entry_eq]
  generalize (lg_sl ([.ref aM0, .int (nI s9), .int (nI b)]) ++ List.replicate (3 - (lg_sl ([.ref aM0, .int (nI s9), .int (nI b)])).length) Slot.unset).toArray = ls at hl ⊢
  have hl : lv_has ls 3 [(0, .ref aM0), (1, .int (nI s9)), (2, .int (nI b))] := hl
  have q1 := zz_3le' hb9
  have q2 := zz_3pos b
  have q3 : s9 / 3 ^ b < 2 ^ 31 := Nat.lt_of_le_of_lt (Nat.div_le_self _ _) hs
  refine lv_iload_n hx hb d_M_digit_0 rfl (lv_at hl 1 rfl) ?_
  refine lv_aload_n hx hb d_M_digit_1 rfl (lv_at hl 0 rfl) ?_
  refine va_get (D := D) (ci := 6) (v := .ref bun) (C := "DecodeTestsModel") (T := F_M) (N := 32) hx hb hT hin_M hown hK hP 0 rfl rfl 16 (by decide) (hT _ q_f_M_46) (fun _ h9 => h9) rfl d_M_digit_2 ?_
  refine lv_iload_n hx hb d_M_digit_5 rfl (lv_at hl 2 rfl) ?_
  refine zz_iald hx hb hK hP 1 0 rfl rfl (j := b) (by omega) (by omega) d_M_digit_6 ?_
  refine zz_top (y := nI (zM_u b)) rfl ?_
  refine zz_top (y := nI (3 ^ b)) (congrArg nI (zM_u_eq hb9)) ?_
  refine lv_idiv hx hb d_M_digit_7 (by intro q; rw [zz_eq0 (by omega)] at q; omega) ?_
  refine zz_top (y := nI (s9 / (3 ^ b))) (pk_div (by omega) (by omega) (by omega)) ?_
  refine lv_iconst (v := nI 3) hx hb d_M_digit_8 (by decide) ?_
  refine lv_irem hx hb d_M_digit_9 (by decide) ?_
  refine zz_top (y := nI ((s9 / (3 ^ b)) % 3)) (pk_rem (by omega) (by omega) (by omega)) ?_
  exact W.iret (v := nI ((s9 / (3 ^ b)) % 3)) hx hb hr (fun t ht _ => zz_rd (rfl) ht) (fun _ h => by cases h) d_M_digit_10

set_option maxHeartbeats 4000000 in
set_option maxRecDepth 100000 in
theorem c_M_half (l : Launch) (D : va_G) (cA : ClassId) (aM0 : Nat) (xth : Nat) (xw : Nat) (xn : Nat) (xk : Nat) (xnd : Nat) (xst : Nat) (xh : Nat) (xb : Nat) (xt : Nat) (xta : Nat) (bmk : Nat) (bvl : Nat) (bln : Nat) (bfl : Nat) (bal : Nat) (bls : Nat) (bli : Nat) (bon : Nat) (bmn : Nat) (bbt : Nat) (bwo : Nat) (bto : Nat) (bun : Nat) (bse : Nat) (bze : Nat) (bno : Nat) (bwa : Nat) (bpa : Nat) (bwd : Nat) (brw : Nat) (brf : Nat) (bra : Nat) (s9 : Nat) (b : Nat) (v : Nat) (hb9 : b < 9) (hv : v ≤ 1) (hh : (2 - v) * 3 ^ b ≤ s9) : Met l y_M_half ws_M_half ({ frames := 0, cells := 0, slots := 0, locals := 0 }) (va_Pc [.ref aM0, .int (nI s9), .int (nI b), .int (nI v)] (zz_pre D vwCl [(cA, .int)] [(aM0, .inr (6, [.int (nI xth), .int (nI xw), .int (nI xn), .int (nI xk), .ref bmk, .ref bvl, .ref bln, .ref bfl, .ref bal, .ref bls, .ref bli, .ref bon, .ref bmn, .ref bbt, .ref bwo, .ref bto, .ref bun, .int (nI xnd), .ref bse, .ref bze, .ref bno, .ref bwa, .ref bpa, .int (nI xst), .ref bwd, .int (nI xh), .int (nI xb), .int (nI xt), .int (nI xta), .ref brw, .ref brf, .ref bra])), (bun, .inl (cA, 9, .inl (fun j => nI (zM_u j))))] zz_nx)) (QcRead (nI (s9 - (2 - v) * 3 ^ b))) 0 0 (fun _ => False) := by
  refine Met.ofW (cc := b_M_half) (maxL := 4) (ret := (some .int)) (by decide) rfl ?_
  intro p e s m args below meth c s₁ B hml hv
  obtain ⟨rfl, hP, hK, hX⟩ := hv
  have hS : va_S (fun _ => False) s.heap s.heap [] := va_S.rf
  have hx := B.exec
  have hb := B.bytes
  have hr := B.returns
  have hts := atoms_spec (ws := ws_M_half) B.pre
  have hown : s.vm.findClass "DecodeTestsModel" = some m.cls := findClass_of_methodNamed B.named
  have hlocks := B.notSynchronized
  have hT : ∀ w9 ∈ zz_T, w9.before ([.ref aM0, .int (nI s9), .int (nI b), .int (nI v)] : List Value).toArray s = true := fun w9 h => hts w9 (List.mem_cons_of_mem _ h)
  have hl := lv_entry ([.ref aM0, .int (nI s9), .int (nI b), .int (nI v)]) (n := 4) (Nat.le_of_ble_eq_true rfl)
  rw [lg_entry_eq]
  generalize (lg_sl ([.ref aM0, .int (nI s9), .int (nI b), .int (nI v)]) ++ List.replicate (4 - (lg_sl ([.ref aM0, .int (nI s9), .int (nI b), .int (nI v)])).length) Slot.unset).toArray = ls at hl ⊢
  have hl : lv_has ls 4 [(0, .ref aM0), (1, .int (nI s9)), (2, .int (nI b)), (3, .int (nI v))] := hl
  refine lv_iload_n hx hb d_M_half_0 rfl (lv_at hl 1 rfl) ?_
  refine lv_iconst (v := nI 2) hx hb d_M_half_1 (by decide) ?_
  refine lv_iload_n hx hb d_M_half_2 rfl (lv_at hl 3 rfl) ?_
  refine lv_isub hx hb d_M_half_3 ?_
  refine zz_top (y := nI (2 - v)) (pk_sub (by omega)) ?_
  refine lv_aload_n hx hb d_M_half_4 rfl (lv_at hl 0 rfl) ?_
  refine va_get (D := D) (ci := 6) (v := .ref bun) (C := "DecodeTestsModel") (T := F_M) (N := 32) hx hb hT hin_M hown hK hP 0 rfl rfl 16 (by decide) (hT _ q_f_M_46) (fun _ h9 => h9) rfl d_M_half_5 ?_
  refine lv_iload_n hx hb d_M_half_8 rfl (lv_at hl 2 rfl) ?_
  refine zz_iald hx hb hK hP 1 0 rfl rfl (j := b) (by omega) (by omega) d_M_half_9 ?_
  refine zz_top (y := nI (zM_u b)) rfl ?_
  refine zz_top (y := nI (3 ^ b)) (congrArg nI (zM_u_eq hb9)) ?_
  refine lv_imul hx hb d_M_half_10 ?_
  refine zz_top (y := nI ((2 - v) * (3 ^ b))) (pk_mul (2 - v) (3 ^ b)) ?_
  refine lv_isub hx hb d_M_half_11 ?_
  refine zz_top (y := nI (s9 - ((2 - v) * (3 ^ b)))) (pk_sub (by omega)) ?_
  exact W.iret (v := nI (s9 - ((2 - v) * (3 ^ b)))) hx hb hr (fun t ht _ => zz_rd (rfl) ht) (fun _ h => by cases h) d_M_half_12

set_option maxHeartbeats 4000000 in
set_option maxRecDepth 100000 in
theorem c_M_hasFree (l : Launch) (D : va_G) (cA : ClassId) (aM0 : Nat) (xth : Nat) (xw : Nat) (xn : Nat) (xk : Nat) (xnd : Nat) (xst : Nat) (xh : Nat) (xb : Nat) (xt : Nat) (xta : Nat) (bmk : Nat) (bvl : Nat) (bln : Nat) (bfl : Nat) (bal : Nat) (bls : Nat) (bli : Nat) (bon : Nat) (bmn : Nat) (bbt : Nat) (bwo : Nat) (bto : Nat) (bun : Nat) (bse : Nat) (bze : Nat) (bno : Nat) (bwa : Nat) (bpa : Nat) (bwd : Nat) (brw : Nat) (brf : Nat) (bra : Nat) (s9 : Nat) (hW : xw ≤ 8) (hs : s9 < 2 ^ 31) : Met l y_M_hasFree ws_M_hasFree ({ frames := 1, cells := 0, slots := 0, locals := 22 }) (va_Pc [.ref aM0, .int (nI s9)] (zz_pre D vwCl [(cA, .int)] [(aM0, .inr (6, [.int (nI xth), .int (nI xw), .int (nI xn), .int (nI xk), .ref bmk, .ref bvl, .ref bln, .ref bfl, .ref bal, .ref bls, .ref bli, .ref bon, .ref bmn, .ref bbt, .ref bwo, .ref bto, .ref bun, .int (nI xnd), .ref bse, .ref bze, .ref bno, .ref bwa, .ref bpa, .int (nI xst), .ref bwd, .int (nI xh), .int (nI xb), .int (nI xt), .int (nI xta), .ref brw, .ref brf, .ref bra])), (bun, .inl (cA, 9, .inl (fun j => nI (zM_u j))))] zz_nx)) (QcRead (nI (zz_b (zz_any (fun b => decide (zM_dg s9 b = 2)) 0 xw)))) 0 0 (fun _ => False) := by
  refine Met.ofW (cc := b_M_hasFree) (maxL := 3) (ret := (some .boolean)) (by decide) rfl ?_
  intro p e s m args below meth c s₁ B hml hv
  obtain ⟨rfl, hP, hK, hX⟩ := hv
  have hS : va_S (fun _ => False) s.heap s.heap [] := va_S.rf
  have hx := B.exec
  have hb := B.bytes
  have hr := B.returns
  have hts := atoms_spec (ws := ws_M_hasFree) B.pre
  have hown : s.vm.findClass "DecodeTestsModel" = some m.cls := findClass_of_methodNamed B.named
  have hlocks := B.notSynchronized
  have hT : ∀ w9 ∈ zz_T, w9.before ([.ref aM0, .int (nI s9)] : List Value).toArray s = true := fun w9 h => hts w9 (List.mem_cons_of_mem _ h)
  have hl := lv_entry ([.ref aM0, .int (nI s9)]) (n := 3) (Nat.le_of_ble_eq_true rfl)
  rw [lg_entry_eq]
  generalize (lg_sl ([.ref aM0, .int (nI s9)]) ++ List.replicate (3 - (lg_sl ([.ref aM0, .int (nI s9)])).length) Slot.unset).toArray = ls at hl ⊢
  have hl : lv_has ls 3 [(0, .ref aM0), (1, .int (nI s9))] := hl
  refine lv_iconst (v := nI 0) hx hb d_M_hasFree_0 (by decide) ?_
  refine lv_istore_n (lv' := [(2, .int (nI 0)), (0, .ref aM0), (1, .int (nI s9))]) hx hb d_M_hasFree_1 rfl hl (by decide) rfl (fun ls hl => ?_)
  have lp : ∀ (fu : Nat) (b : Nat), (b ≤ xw) → (zz_any (fun b => decide (zM_dg s9 b = 2)) b (xw - b) = zz_any (fun b => decide (zM_dg s9 b = 2)) 0 xw) → xw - b < fu → ∀ (ls : Array Slot), lv_has ls 3 [(0, .ref aM0), (1, .int (nI s9)), (2, .int (nI b))] → W p l e (headSpec ws_M_hasFree ({ frames := 1, cells := 0, slots := 0, locals := 22 })).room s m ([.ref aM0, .int (nI s9)] : List Value).toArray below meth c s.heap [] 0 0 (MQ below (QcRead (nI (zz_b (zz_any (fun b => decide (zM_dg s9 b = 2)) 0 xw)))) ([.ref aM0, .int (nI s9)] : List Value).toArray s 0 0 (fun _ => False)) (F0 m 2 ls []) := by
    intro fu
    induction fu with
    | zero => intro b hi hinv hmu; exact absurd hmu (Nat.not_lt_zero _)
    | succ fu ih_lp =>
      intro b hi hinv hmu ls hl
      refine lv_iload_n hx hb d_M_hasFree_2 rfl (lv_at hl 2 rfl) ?_
      refine lv_aload_n hx hb d_M_hasFree_3 rfl (lv_at hl 0 rfl) ?_
      refine va_get (D := D) (ci := 6) (v := .int (nI xw)) (C := "DecodeTestsModel") (T := F_M) (N := 32) hx hb hT hin_M hown hK hP 0 rfl rfl 1 (by decide) (hT _ q_f_M_76) (fun _ h9 => h9) rfl d_M_hasFree_4 ?_
      refine lv_icmp_ge (tgt := 28) hx hb d_M_hasFree_7 (by decide) (fun c7 => ?_) (fun c7 => ?_)
      · rw [zz_le (by omega) (by omega)] at c7
        refine lv_iconst (v := nI 0) hx hb d_M_hasFree_28 (by decide) ?_
        exact W.zret (v := nI 0) (ty := .boolean) hx hb hr rfl (fun t ht _ => zz_rd (by rw [← hinv, zz_any_end (by omega)]; rfl) ht) (fun _ h => by cases h) d_M_hasFree_29
      · rw [zz_le (by omega) (by omega)] at c7
        have d3 := zM_dg_lt s9 b
        refine lv_aload_n hx hb d_M_hasFree_10 rfl (lv_at hl 0 rfl) ?_
        refine lv_iload_n hx hb d_M_hasFree_11 rfl (lv_at hl 1 rfl) ?_
        refine lv_iload_n hx hb d_M_hasFree_12 rfl (lv_at hl 2 rfl) ?_
        refine zz_rV (As := [.int (nI s9), .int (nI b)]) (rest := []) (r := nI (zM_dg s9 b)) ⟨hx, hb, hml, hown, hts⟩ (c_M_digit l _ _ aM0 xth xw xn xk xnd xst xh xb xt xta bmk bvl bln bfl bal bls bli bon bmn bbt bwo bto bun bse bze bno bwa bpa bwd brw brf bra s9 b (by omega) (by omega)) (cwV 2 hts g_M_hasFree_104 rfl rfl rfl k_M_digit ⟨show 0 + 1 ≤ 1 by omega, show 8 + (3 + 11) + 0 ≤ 22 by omega⟩) (zz_blind_nx) hK (hP.sub (ws' := [(aM0, .inr (6, [.int (nI xth), .int (nI xw), .int (nI xn), .int (nI xk), .ref bmk, .ref bvl, .ref bln, .ref bfl, .ref bal, .ref bls, .ref bli, .ref bon, .ref bmn, .ref bbt, .ref bwo, .ref bto, .ref bun, .int (nI xnd), .ref bse, .ref bze, .ref bno, .ref bwa, .ref bpa, .int (nI xst), .ref bwd, .int (nI xh), .int (nI xb), .int (nI xt), .int (nI xta), .ref brw, .ref brf, .ref bra])), (bun, .inl (cA, 9, .inl (fun j => nI (zM_u j))))]) [0, 1] rfl) (fun _ _ _ => trivial) 6 0 rfl rfl rfl hl.1 rfl (Nat.le_of_ble_eq_true rfl) d_M_hasFree_13 ⟨Nat.zero_le _, Nat.zero_le _⟩ ?_
        refine lv_iconst (v := nI 2) hx hb d_M_hasFree_16 (by decide) ?_
        refine lv_icmp_ne (tgt := 22) hx hb d_M_hasFree_17 (by decide) (fun c17 => ?_) (fun c17 => ?_)
        · rw [zz_eq (by omega) (by omega)] at c17
          refine lv_iinc (v := nI (b + 1)) (lv' := [(2, .int (nI (b + 1))), (0, .ref aM0), (1, .int (nI s9))]) hx hb d_M_hasFree_22 hl (k := 2) rfl (nI_add b 1) (by decide) rfl (fun ls hl => ?_)
          refine lv_goto (tgt := 2) hx hb d_M_hasFree_25 (by decide) ?_
          exact ih_lp (b + 1) (by omega) (by rw [← hinv]; exact zz_any_no (by omega) (by simp_all)) (by omega) ls (lv_sub hl [1, 2, 0] rfl)
        · rw [zz_eq (by omega) (by omega)] at c17
          refine lv_iconst (v := nI 1) hx hb d_M_hasFree_20 (by decide) ?_
          exact W.zret (v := nI 1) (ty := .boolean) hx hb hr rfl (fun t ht _ => zz_rd (by rw [← hinv, zz_any_yes (by omega) (by simp_all)]; rfl) ht) (fun _ h => by cases h) d_M_hasFree_21
  exact lp (xw + 1) 0 (by omega) (by rw [Nat.sub_zero]) (Nat.lt_succ_self _) ls (lv_sub hl [1, 2, 0] rfl)

set_option maxHeartbeats 4000000 in
set_option maxRecDepth 100000 in
theorem c_M_onlyWord (l : Launch) (D : va_G) (cA : ClassId) (aM0 : Nat) (xth : Nat) (xw : Nat) (xn : Nat) (xk : Nat) (xnd : Nat) (xst : Nat) (xh : Nat) (xb : Nat) (xt : Nat) (xta : Nat) (bmk : Nat) (bvl : Nat) (bln : Nat) (bfl : Nat) (bal : Nat) (bls : Nat) (bli : Nat) (bon : Nat) (bmn : Nat) (bbt : Nat) (bwo : Nat) (bto : Nat) (bun : Nat) (bse : Nat) (bze : Nat) (bno : Nat) (bwa : Nat) (bpa : Nat) (bwd : Nat) (brw : Nat) (brf : Nat) (bra : Nat) (s9 : Nat) (hW : xw ≤ 8) (hs : s9 < 2 ^ 31) : Met l y_M_onlyWord ws_M_onlyWord ({ frames := 1, cells := 0, slots := 0, locals := 22 }) (va_Pc [.ref aM0, .int (nI s9)] (zz_pre D vwCl [(cA, .int)] [(aM0, .inr (6, [.int (nI xth), .int (nI xw), .int (nI xn), .int (nI xk), .ref bmk, .ref bvl, .ref bln, .ref bfl, .ref bal, .ref bls, .ref bli, .ref bon, .ref bmn, .ref bbt, .ref bwo, .ref bto, .ref bun, .int (nI xnd), .ref bse, .ref bze, .ref bno, .ref bwa, .ref bpa, .int (nI xst), .ref bwd, .int (nI xh), .int (nI xb), .int (nI xt), .int (nI xta), .ref brw, .ref brf, .ref bra])), (bun, .inl (cA, 9, .inl (fun j => nI (zM_u j))))] zz_nx)) (QcRead (nI (zM_ow s9 0 xw 0))) 0 0 (fun _ => False) := by
  refine Met.ofW (cc := b_M_onlyWord) (maxL := 4) (ret := (some .int)) (by decide) rfl ?_
  intro p e s m args below meth c s₁ B hml hv
  obtain ⟨rfl, hP, hK, hX⟩ := hv
  have hS : va_S (fun _ => False) s.heap s.heap [] := va_S.rf
  have hx := B.exec
  have hb := B.bytes
  have hr := B.returns
  have hts := atoms_spec (ws := ws_M_onlyWord) B.pre
  have hown : s.vm.findClass "DecodeTestsModel" = some m.cls := findClass_of_methodNamed B.named
  have hlocks := B.notSynchronized
  have hT : ∀ w9 ∈ zz_T, w9.before ([.ref aM0, .int (nI s9)] : List Value).toArray s = true := fun w9 h => hts w9 (List.mem_cons_of_mem _ h)
  have hl := lv_entry ([.ref aM0, .int (nI s9)]) (n := 4) (Nat.le_of_ble_eq_true rfl)
  rw [lg_entry_eq]
  generalize (lg_sl ([.ref aM0, .int (nI s9)]) ++ List.replicate (4 - (lg_sl ([.ref aM0, .int (nI s9)])).length) Slot.unset).toArray = ls at hl ⊢
  have hl : lv_has ls 4 [(0, .ref aM0), (1, .int (nI s9))] := hl
  refine lv_iconst (v := nI 0) hx hb d_M_onlyWord_0 (by decide) ?_
  refine lv_istore_n (lv' := [(2, .int (nI 0)), (0, .ref aM0), (1, .int (nI s9))]) hx hb d_M_onlyWord_1 rfl hl (by decide) rfl (fun ls hl => ?_)
  refine lv_iconst (v := nI 0) hx hb d_M_onlyWord_2 (by decide) ?_
  refine lv_istore_n (lv' := [(3, .int (nI 0)), (2, .int (nI 0)), (0, .ref aM0), (1, .int (nI s9))]) hx hb d_M_onlyWord_3 rfl hl (by decide) rfl (fun ls hl => ?_)
  have lp : ∀ (fu : Nat) (b : Nat) (w : Nat), (b ≤ xw) → (zM_ow s9 b (xw - b) w = zM_ow s9 0 xw 0) → xw - b < fu → ∀ (ls : Array Slot), lv_has ls 4 [(0, .ref aM0), (1, .int (nI s9)), (2, .int (nI w)), (3, .int (nI b))] → W p l e (headSpec ws_M_onlyWord ({ frames := 1, cells := 0, slots := 0, locals := 22 })).room s m ([.ref aM0, .int (nI s9)] : List Value).toArray below meth c s.heap [] 0 0 (MQ below (QcRead (nI (zM_ow s9 0 xw 0))) ([.ref aM0, .int (nI s9)] : List Value).toArray s 0 0 (fun _ => False)) (F0 m 4 ls []) := by
    intro fu
    induction fu with
    | zero => intro b w hi hinv hmu; exact absurd hmu (Nat.not_lt_zero _)
    | succ fu ih_lp =>
      intro b w hi hinv hmu ls hl
      refine lv_iload_n hx hb d_M_onlyWord_4 rfl (lv_at hl 3 rfl) ?_
      refine lv_aload_n hx hb d_M_onlyWord_5 rfl (lv_at hl 0 rfl) ?_
      refine va_get (D := D) (ci := 6) (v := .int (nI xw)) (C := "DecodeTestsModel") (T := F_M) (N := 32) hx hb hT hin_M hown hK hP 0 rfl rfl 1 (by decide) (hT _ q_f_M_76) (fun _ h9 => h9) rfl d_M_onlyWord_6 ?_
      refine lv_icmp_ge (tgt := 29) hx hb d_M_onlyWord_9 (by decide) (fun c9 => ?_) (fun c9 => ?_)
      · rw [zz_le (by omega) (by omega)] at c9
        refine lv_iload_n hx hb d_M_onlyWord_29 rfl (lv_at hl 2 rfl) ?_
        exact W.iret (v := nI w) hx hb hr (fun t ht _ => zz_rd (by rw [← hinv, zM_ow_e (by omega)]) ht) (fun _ h => by cases h) d_M_onlyWord_30
      · rw [zz_le (by omega) (by omega)] at c9
        have d3 := zM_dg_lt s9 b
        have d4 := zz_2le (a := zM_dg s9 b) (b := b) (by omega)
        refine lv_iload_n hx hb d_M_onlyWord_12 rfl (lv_at hl 2 rfl) ?_
        refine lv_aload_n hx hb d_M_onlyWord_13 rfl (lv_at hl 0 rfl) ?_
        refine lv_iload_n hx hb d_M_onlyWord_14 rfl (lv_at hl 1 rfl) ?_
        refine lv_iload_n hx hb d_M_onlyWord_15 rfl (lv_at hl 3 rfl) ?_
        refine zz_rV (As := [.int (nI s9), .int (nI b)]) (rest := [.int (nI w)]) (r := nI (zM_dg s9 b)) ⟨hx, hb, hml, hown, hts⟩ (c_M_digit l _ _ aM0 xth xw xn xk xnd xst xh xb xt xta bmk bvl bln bfl bal bls bli bon bmn bbt bwo bto bun bse bze bno bwa bpa bwd brw brf bra s9 b (by omega) (by omega)) (cwV 2 hts g_M_onlyWord_104 rfl rfl rfl k_M_digit ⟨show 0 + 1 ≤ 1 by omega, show 8 + (3 + 11) + 0 ≤ 22 by omega⟩) (zz_blind_nx) hK (hP.sub (ws' := [(aM0, .inr (6, [.int (nI xth), .int (nI xw), .int (nI xn), .int (nI xk), .ref bmk, .ref bvl, .ref bln, .ref bfl, .ref bal, .ref bls, .ref bli, .ref bon, .ref bmn, .ref bbt, .ref bwo, .ref bto, .ref bun, .int (nI xnd), .ref bse, .ref bze, .ref bno, .ref bwa, .ref bpa, .int (nI xst), .ref bwd, .int (nI xh), .int (nI xb), .int (nI xt), .int (nI xta), .ref brw, .ref brf, .ref bra])), (bun, .inl (cA, 9, .inl (fun j => nI (zM_u j))))]) [0, 1] rfl) (fun _ _ _ => trivial) 6 0 rfl rfl rfl hl.1 rfl (Nat.le_of_ble_eq_true rfl) d_M_onlyWord_16 ⟨Nat.zero_le _, Nat.zero_le _⟩ ?_
        refine lv_iload_n hx hb d_M_onlyWord_19 rfl (lv_at hl 3 rfl) ?_
        refine lv_ishl hx hb d_M_onlyWord_20 ?_
        refine zz_top (y := nI ((zM_dg s9 b) * 2 ^ b)) (zz_shl (by omega) (by omega)) ?_
        refine lv_ior hx hb d_M_onlyWord_21 ?_
        refine zz_top (y := nI (w ||| ((zM_dg s9 b) * 2 ^ b))) (zz_or w ((zM_dg s9 b) * 2 ^ b)) ?_
        refine lv_istore_n (lv' := [(2, .int (nI (w ||| ((zM_dg s9 b) * 2 ^ b)))), (0, .ref aM0), (1, .int (nI s9)), (3, .int (nI b))]) hx hb d_M_onlyWord_22 rfl hl (by decide) rfl (fun ls hl => ?_)
        refine lv_iinc (v := nI (b + 1)) (lv' := [(3, .int (nI (b + 1))), (2, .int (nI (w ||| ((zM_dg s9 b) * 2 ^ b)))), (0, .ref aM0), (1, .int (nI s9))]) hx hb d_M_onlyWord_23 hl (k := 3) rfl (nI_add b 1) (by decide) rfl (fun ls hl => ?_)
        refine lv_goto (tgt := 4) hx hb d_M_onlyWord_26 (by decide) ?_
        exact ih_lp (b + 1) (w ||| zM_dg s9 b * 2 ^ b) (by omega) (by rw [← hinv, zM_ow_s (b := b) (n := xw) (by omega)]) (by omega) ls (lv_sub hl [2, 3, 1, 0] rfl)
  exact lp (xw + 1) 0 0 (by omega) (by rw [Nat.sub_zero]) (Nat.lt_succ_self _) ls (lv_sub hl [2, 3, 1, 0] rfl)

set_option maxHeartbeats 4000000 in
set_option maxRecDepth 100000 in
theorem c_M_firstFree (l : Launch) (D : va_G) (cA : ClassId) (aM0 : Nat) (xth : Nat) (xw : Nat) (xn : Nat) (xk : Nat) (xnd : Nat) (xst : Nat) (xh : Nat) (xb : Nat) (xt : Nat) (xta : Nat) (bmk : Nat) (bvl : Nat) (bln : Nat) (bfl : Nat) (bal : Nat) (bls : Nat) (bli : Nat) (bon : Nat) (bmn : Nat) (bbt : Nat) (bwo : Nat) (bto : Nat) (bun : Nat) (bse : Nat) (bze : Nat) (bno : Nat) (bwa : Nat) (bpa : Nat) (bwd : Nat) (brw : Nat) (brf : Nat) (bra : Nat) (s9 : Nat) (b0 : Nat) (hs : s9 < 2 ^ 31) (hb0 : b0 < 9) (hd0 : zM_dg s9 b0 = 2) : Met l y_M_firstFree ws_M_firstFree ({ frames := 1, cells := 0, slots := 0, locals := 22 }) (va_Pc [.ref aM0, .int (nI s9)] (zz_pre D vwCl [(cA, .int)] [(aM0, .inr (6, [.int (nI xth), .int (nI xw), .int (nI xn), .int (nI xk), .ref bmk, .ref bvl, .ref bln, .ref bfl, .ref bal, .ref bls, .ref bli, .ref bon, .ref bmn, .ref bbt, .ref bwo, .ref bto, .ref bun, .int (nI xnd), .ref bse, .ref bze, .ref bno, .ref bwa, .ref bpa, .int (nI xst), .ref bwd, .int (nI xh), .int (nI xb), .int (nI xt), .int (nI xta), .ref brw, .ref brf, .ref bra])), (bun, .inl (cA, 9, .inl (fun j => nI (zM_u j))))] zz_nx)) (QcRead (nI (zz_first (fun b => decide (zM_dg s9 b = 2)) 0 9 - 1))) 0 0 (fun _ => False) := by
  refine Met.ofW (cc := b_M_firstFree) (maxL := 3) (ret := (some .int)) (by decide) rfl ?_
  intro p e s m args below meth c s₁ B hml hv
  obtain ⟨rfl, hP, hK, hX⟩ := hv
  have hS : va_S (fun _ => False) s.heap s.heap [] := va_S.rf
  have hx := B.exec
  have hb := B.bytes
  have hr := B.returns
  have hts := atoms_spec (ws := ws_M_firstFree) B.pre
  have hown : s.vm.findClass "DecodeTestsModel" = some m.cls := findClass_of_methodNamed B.named
  have hlocks := B.notSynchronized
  have hT : ∀ w9 ∈ zz_T, w9.before ([.ref aM0, .int (nI s9)] : List Value).toArray s = true := fun w9 h => hts w9 (List.mem_cons_of_mem _ h)
  have hl := lv_entry ([.ref aM0, .int (nI s9)]) (n := 3) (Nat.le_of_ble_eq_true rfl)
  rw [lg_entry_eq]
  generalize (lg_sl ([.ref aM0, .int (nI s9)]) ++ List.replicate (3 - (lg_sl ([.ref aM0, .int (nI s9)])).length) Slot.unset).toArray = ls at hl ⊢
  have hl : lv_has ls 3 [(0, .ref aM0), (1, .int (nI s9))] := hl
  refine lv_iconst (v := nI 0) hx hb d_M_firstFree_0 (by decide) ?_
  refine lv_istore_n (lv' := [(2, .int (nI 0)), (0, .ref aM0), (1, .int (nI s9))]) hx hb d_M_firstFree_1 rfl hl (by decide) rfl (fun ls hl => ?_)
  have lp : ∀ (fu : Nat) (b : Nat), (b ≤ b0) → (zz_first (fun b => decide (zM_dg s9 b = 2)) b (9 - b) = zz_first (fun b => decide (zM_dg s9 b = 2)) 0 9) → 9 - b < fu → ∀ (ls : Array Slot), lv_has ls 3 [(0, .ref aM0), (1, .int (nI s9)), (2, .int (nI b))] → W p l e (headSpec ws_M_firstFree ({ frames := 1, cells := 0, slots := 0, locals := 22 })).room s m ([.ref aM0, .int (nI s9)] : List Value).toArray below meth c s.heap [] 0 0 (MQ below (QcRead (nI (zz_first (fun b => decide (zM_dg s9 b = 2)) 0 9 - 1))) ([.ref aM0, .int (nI s9)] : List Value).toArray s 0 0 (fun _ => False)) (F0 m 2 ls []) := by
    intro fu
    induction fu with
    | zero => intro b hi hinv hmu; exact absurd hmu (Nat.not_lt_zero _)
    | succ fu ih_lp =>
      intro b hi hinv hmu ls hl
      refine lv_aload_n hx hb d_M_firstFree_2 rfl (lv_at hl 0 rfl) ?_
      refine lv_iload_n hx hb d_M_firstFree_3 rfl (lv_at hl 1 rfl) ?_
      refine lv_iload_n hx hb d_M_firstFree_4 rfl (lv_at hl 2 rfl) ?_
      refine zz_rV (As := [.int (nI s9), .int (nI b)]) (rest := []) (r := nI (zM_dg s9 b)) ⟨hx, hb, hml, hown, hts⟩ (c_M_digit l _ _ aM0 xth xw xn xk xnd xst xh xb xt xta bmk bvl bln bfl bal bls bli bon bmn bbt bwo bto bun bse bze bno bwa bpa bwd brw brf bra s9 b (by omega) (by omega)) (cwV 2 hts g_M_firstFree_104 rfl rfl rfl k_M_digit ⟨show 0 + 1 ≤ 1 by omega, show 8 + (3 + 11) + 0 ≤ 22 by omega⟩) (zz_blind_nx) hK (hP.sub (ws' := [(aM0, .inr (6, [.int (nI xth), .int (nI xw), .int (nI xn), .int (nI xk), .ref bmk, .ref bvl, .ref bln, .ref bfl, .ref bal, .ref bls, .ref bli, .ref bon, .ref bmn, .ref bbt, .ref bwo, .ref bto, .ref bun, .int (nI xnd), .ref bse, .ref bze, .ref bno, .ref bwa, .ref bpa, .int (nI xst), .ref bwd, .int (nI xh), .int (nI xb), .int (nI xt), .int (nI xta), .ref brw, .ref brf, .ref bra])), (bun, .inl (cA, 9, .inl (fun j => nI (zM_u j))))]) [0, 1] rfl) (fun _ _ _ => trivial) 6 0 rfl rfl rfl hl.1 rfl (Nat.le_of_ble_eq_true rfl) d_M_firstFree_5 ⟨Nat.zero_le _, Nat.zero_le _⟩ ?_
      have d3 := zM_dg_lt s9 b
      refine lv_iconst (v := nI 2) hx hb d_M_firstFree_8 (by decide) ?_
      refine lv_icmp_eq (tgt := 18) hx hb d_M_firstFree_9 (by decide) (fun c9 => ?_) (fun c9 => ?_)
      · rw [zz_eq (by omega) (by omega)] at c9
        refine lv_iload_n hx hb d_M_firstFree_18 rfl (lv_at hl 2 rfl) ?_
        exact W.iret (v := nI b) hx hb hr (fun t ht _ => zz_rd (by rw [← hinv, zz_first_yes (by omega) (by simp_all)]; rfl) ht) (fun _ h => by cases h) d_M_firstFree_19
      · rw [zz_eq (by omega) (by omega)] at c9
        refine lv_iinc (v := nI (b + 1)) (lv' := [(2, .int (nI (b + 1))), (0, .ref aM0), (1, .int (nI s9))]) hx hb d_M_firstFree_12 hl (k := 2) rfl (nI_add b 1) (by decide) rfl (fun ls hl => ?_)
        refine lv_goto (tgt := 2) hx hb d_M_firstFree_15 (by decide) ?_
        exact ih_lp (b + 1) (Nat.lt_of_le_of_ne hi (fun q => c9 (by rw [q]; exact hd0))) (by rw [← hinv]; exact zz_first_no (by omega) (by simp_all)) (by omega) ls (lv_sub hl [1, 2, 0] rfl)
  exact lp (9 + 1) 0 (by omega) (by rw [Nat.sub_zero]) (Nat.lt_succ_self _) ls (lv_sub hl [1, 2, 0] rfl)

set_option maxHeartbeats 4000000 in
set_option maxRecDepth 100000 in
theorem c_M_isLeaf (l : Launch) (D : va_G) (cA : ClassId) (aM0 : Nat) (xth : Nat) (xw : Nat) (xn : Nat) (xk : Nat) (xnd : Nat) (xst : Nat) (xh : Nat) (xb : Nat) (xt : Nat) (xta : Nat) (bmk : Nat) (bvl : Nat) (bln : Nat) (bfl : Nat) (bal : Nat) (bls : Nat) (bli : Nat) (bon : Nat) (bmn : Nat) (bbt : Nat) (bwo : Nat) (bto : Nat) (bun : Nat) (bse : Nat) (bze : Nat) (bno : Nat) (bwa : Nat) (bpa : Nat) (bwd : Nat) (brw : Nat) (brf : Nat) (bra : Nat) (fon : Nat → Nat) (fse : Nat → Nat) (k : Nat) (hk : k < 511) (hse : ∀ j, fse j < 6561) (hon : ∀ j, fon j ≤ 256) : Met l y_M_isLeaf ws_M_isLeaf ({ frames := 0, cells := 0, slots := 0, locals := 0 }) (va_Pc [.ref aM0, .int (nI k)] (zz_pre D vwCl [(cA, .int)] [(aM0, .inr (6, [.int (nI xth), .int (nI xw), .int (nI xn), .int (nI xk), .ref bmk, .ref bvl, .ref bln, .ref bfl, .ref bal, .ref bls, .ref bli, .ref bon, .ref bmn, .ref bbt, .ref bwo, .ref bto, .ref bun, .int (nI xnd), .ref bse, .ref bze, .ref bno, .ref bwa, .ref bpa, .int (nI xst), .ref bwd, .int (nI xh), .int (nI xb), .int (nI xt), .int (nI xta), .ref brw, .ref brf, .ref bra])), (bon, .inl (cA, 6561, .inl (fun j => zz_o (fon j)))), (bse, .inl (cA, 511, .inl (fun j => nI (fse j))))] zz_nx)) (QcRead (nI (zz_b (!decide (fon (fse k) = 0))))) 0 0 (fun _ => False) := by
  refine Met.ofW (cc := b_M_isLeaf) (maxL := 2) (ret := (some .boolean)) (by decide) rfl ?_
  intro p e s m args below meth c s₁ B hml hv
  obtain ⟨rfl, hP, hK, hX⟩ := hv
  have hS : va_S (fun _ => False) s.heap s.heap [] := va_S.rf
  have hx := B.exec
  have hb := B.bytes
  have hr := B.returns
  have hts := atoms_spec (ws := ws_M_isLeaf) B.pre
  have hown : s.vm.findClass "DecodeTestsModel" = some m.cls := findClass_of_methodNamed B.named
  have hlocks := B.notSynchronized
  have hT : ∀ w9 ∈ zz_T, w9.before ([.ref aM0, .int (nI k)] : List Value).toArray s = true := fun w9 h => hts w9 (List.mem_cons_of_mem _ h)
  have hl := lv_entry ([.ref aM0, .int (nI k)]) (n := 2) (Nat.le_of_ble_eq_true rfl)
  rw [lg_entry_eq]
  generalize (lg_sl ([.ref aM0, .int (nI k)]) ++ List.replicate (2 - (lg_sl ([.ref aM0, .int (nI k)])).length) Slot.unset).toArray = ls at hl ⊢
  have hl : lv_has ls 2 [(0, .ref aM0), (1, .int (nI k))] := hl
  have b1 := hse k
  have b2 := hon (fse k)
  refine lv_aload_n hx hb d_M_isLeaf_0 rfl (lv_at hl 0 rfl) ?_
  refine va_get (D := D) (ci := 6) (v := .ref bon) (C := "DecodeTestsModel") (T := F_M) (N := 32) hx hb hT hin_M hown hK hP 0 rfl rfl 11 (by decide) (hT _ q_f_M_31) (fun _ h9 => h9) rfl d_M_isLeaf_1 ?_
  refine lv_aload_n hx hb d_M_isLeaf_4 rfl (lv_at hl 0 rfl) ?_
  refine va_get (D := D) (ci := 6) (v := .ref bse) (C := "DecodeTestsModel") (T := F_M) (N := 32) hx hb hT hin_M hown hK hP 0 rfl rfl 18 (by decide) (hT _ q_f_M_49) (fun _ h9 => h9) rfl d_M_isLeaf_5 ?_
  refine lv_iload_n hx hb d_M_isLeaf_8 rfl (lv_at hl 1 rfl) ?_
  refine zz_iald hx hb hK hP 2 0 rfl rfl (j := k) (by omega) (by omega) d_M_isLeaf_9 ?_
  refine zz_top (y := nI (fse k)) rfl ?_
  refine zz_iald hx hb hK hP 1 0 rfl rfl (j := fse k) (by omega) (by omega) d_M_isLeaf_10 ?_
  refine zz_top (y := zz_o (fon (fse k))) rfl ?_
  refine lv_if_lt (tgt := 18) hx hb d_M_isLeaf_11 (by decide) (fun c11 => ?_) (fun c11 => ?_)
  · rw [zz_o_neg (by omega)] at c11
    refine lv_iconst (v := nI 0) hx hb d_M_isLeaf_18 (by decide) ?_
    exact W.zret (v := nI 0) (ty := .boolean) hx hb hr rfl (fun t ht _ => zz_rd (by simp_all [zz_b]) ht) (fun _ h => by cases h) d_M_isLeaf_19
  · rw [zz_o_neg (by omega)] at c11
    refine lv_iconst (v := nI 1) hx hb d_M_isLeaf_14 (by decide) ?_
    refine lv_goto (tgt := 19) hx hb d_M_isLeaf_15 (by decide) ?_
    exact W.zret (v := nI 1) (ty := .boolean) hx hb hr rfl (fun t ht _ => zz_rd (by simp_all [zz_b]) ht) (fun _ h => by cases h) d_M_isLeaf_19

set_option maxHeartbeats 4000000 in
set_option maxRecDepth 100000 in
theorem c_M_allWords (l : Launch) (D : va_G) (cA : ClassId) (aM0 : Nat) (xth : Nat) (xw : Nat) (xn : Nat) (xk : Nat) (xnd : Nat) (xst : Nat) (xh : Nat) (xb : Nat) (xt : Nat) (xta : Nat) (bmk : Nat) (bvl : Nat) (bln : Nat) (bfl : Nat) (bal : Nat) (bls : Nat) (bli : Nat) (bon : Nat) (bmn : Nat) (bbt : Nat) (bwo : Nat) (bto : Nat) (bun : Nat) (bse : Nat) (bze : Nat) (bno : Nat) (bwa : Nat) (bpa : Nat) (bwd : Nat) (brw : Nat) (brf : Nat) (bra : Nat) (hW : xw ≤ 8) : Met l y_M_allWords ws_M_allWords ({ frames := 0, cells := 0, slots := 0, locals := 0 }) (va_Pc [.ref aM0] (zz_pre D vwCl [(cA, .int)] [(aM0, .inr (6, [.int (nI xth), .int (nI xw), .int (nI xn), .int (nI xk), .ref bmk, .ref bvl, .ref bln, .ref bfl, .ref bal, .ref bls, .ref bli, .ref bon, .ref bmn, .ref bbt, .ref bwo, .ref bto, .ref bun, .int (nI xnd), .ref bse, .ref bze, .ref bno, .ref bwa, .ref bpa, .int (nI xst), .ref bwd, .int (nI xh), .int (nI xb), .int (nI xt), .int (nI xta), .ref brw, .ref brf, .ref bra])), (bun, .inl (cA, 9, .inl (fun j => nI (zM_u j))))] zz_nx)) (QcRead (nI (3 ^ xw - 1))) 0 0 (fun _ => False) := by
  refine Met.ofW (cc := b_M_allWords) (maxL := 1) (ret := (some .int)) (by decide) rfl ?_
  intro p e s m args below meth c s₁ B hml hv
  obtain ⟨rfl, hP, hK, hX⟩ := hv
  have hS : va_S (fun _ => False) s.heap s.heap [] := va_S.rf
  have hx := B.exec
  have hb := B.bytes
  have hr := B.returns
  have hts := atoms_spec (ws := ws_M_allWords) B.pre
  have hown : s.vm.findClass "DecodeTestsModel" = some m.cls := findClass_of_methodNamed B.named
  have hlocks := B.notSynchronized
  have hT : ∀ w9 ∈ zz_T, w9.before ([.ref aM0] : List Value).toArray s = true := fun w9 h => hts w9 (List.mem_cons_of_mem _ h)
  have hl := lv_entry ([.ref aM0]) (n := 1) (Nat.le_of_ble_eq_true rfl)
  rw [lg_entry_eq]
  generalize (lg_sl ([.ref aM0]) ++ List.replicate (1 - (lg_sl ([.ref aM0])).length) Slot.unset).toArray = ls at hl ⊢
  have hl : lv_has ls 1 [(0, .ref aM0)] := hl
  have q2 := zz_3pos xw
  refine lv_aload_n hx hb d_M_allWords_0 rfl (lv_at hl 0 rfl) ?_
  refine va_get (D := D) (ci := 6) (v := .ref bun) (C := "DecodeTestsModel") (T := F_M) (N := 32) hx hb hT hin_M hown hK hP 0 rfl rfl 16 (by decide) (hT _ q_f_M_46) (fun _ h9 => h9) rfl d_M_allWords_1 ?_
  refine lv_aload_n hx hb d_M_allWords_4 rfl (lv_at hl 0 rfl) ?_
  refine va_get (D := D) (ci := 6) (v := .int (nI xw)) (C := "DecodeTestsModel") (T := F_M) (N := 32) hx hb hT hin_M hown hK hP 0 rfl rfl 1 (by decide) (hT _ q_f_M_76) (fun _ h9 => h9) rfl d_M_allWords_5 ?_
  refine zz_iald hx hb hK hP 1 0 rfl rfl (j := xw) (by omega) (by omega) d_M_allWords_8 ?_
  refine zz_top (y := nI (zM_u xw)) rfl ?_
  refine zz_top (y := nI (3 ^ xw)) (congrArg nI (zM_u_eq (by omega))) ?_
  refine lv_iconst (v := nI 1) hx hb d_M_allWords_9 (by decide) ?_
  refine lv_isub hx hb d_M_allWords_10 ?_
  refine zz_top (y := nI (3 ^ xw - 1)) (pk_sub (by omega)) ?_
  exact W.iret (v := nI (3 ^ xw - 1)) hx hb hr (fun t ht _ => zz_rd (rfl) ht) (fun _ h => by cases h) d_M_allWords_11
