set_option maxHeartbeats 4000000 in
set_option maxRecDepth 100000 in
theorem c_M_choose (l : Launch) (D : va_G) (cA : ClassId) (aM0 : Nat) (xth : Nat) (xw : Nat) (xn : Nat) (xk : Nat) (xnd : Nat) (xst : Nat) (xh : Nat) (xb : Nat) (xt : Nat) (xta : Nat) (bmk : Nat) (bvl : Nat) (bln : Nat) (bfl : Nat) (bal : Nat) (bls : Nat) (bli : Nat) (bon : Nat) (bmn : Nat) (bbt : Nat) (bwo : Nat) (bto : Nat) (bun : Nat) (bse : Nat) (bze : Nat) (bno : Nat) (bwa : Nat) (bpa : Nat) (bwd : Nat) (brw : Nat) (brf : Nat) (bra : Nat) (fmn : Nat → Nat) (fbt : Nat → Nat) (fwo : Nat → Nat) (fto : Nat → Nat) (k9 : Nat) (s9 : Nat) (sz : Nat) (hW : xw ≤ 8) (hk : k9 < 3) (hs : s9 < 6561) (hside : ∀ b, b < xw → zM_dg s9 b = 2 → (2 - 0) * 3 ^ b ≤ s9) (hwb : ∀ b, b < xw → zM_dg s9 b = 2 → fwo (6561 * k9 + (s9 - (2 - 0) * 3 ^ b)) ≤ 8 ∧ fwo (6561 * k9 + (s9 - (2 - 1) * 3 ^ b)) ≤ 8 ∧ fto (6561 * k9 + (s9 - (2 - 0) * 3 ^ b)) ≤ 2048 ∧ fto (6561 * k9 + (s9 - (2 - 1) * 3 ^ b)) ≤ 2048) (hmn : fmn s9 ≤ 256) (hws0 : fwo (6561 * k9 + s9) ≤ 9) (hts0 : fto (6561 * k9 + s9) ≤ 4352) : Met l y_M_choose ws_M_choose ({ frames := 1, cells := 0, slots := 0, locals := 23 }) (va_Pc [.ref aM0, .int (nI k9), .int (nI s9)] (zz_preW D vwCl [(cA, .int)] [(aM0, .inr (6, [.int (nI xth), .int (nI xw), .int (nI xn), .int (nI xk), .ref bmk, .ref bvl, .ref bln, .ref bfl, .ref bal, .ref bls, .ref bli, .ref bon, .ref bmn, .ref bbt, .ref bwo, .ref bto, .ref bun, .int (nI xnd), .ref bse, .ref bze, .ref bno, .ref bwa, .ref bpa, .int (nI xst), .ref bwd, .int (nI xh), .int (nI xb), .int (nI xt), .int (nI xta), .ref brw, .ref brf, .ref bra])), (bmn, .inl (cA, 6561, .inl (fun j => nI (fmn j)))), (bbt, .inl (cA, 19683, .inl (fun j => zz_o (fbt j)))), (bwo, .inl (cA, 19683, .inl (fun j => nI (fwo j)))), (bto, .inl (cA, 19683, .inl (fun j => nI (fto j)))), (bun, .inl (cA, 9, .inl (fun j => nI (zM_u j))))] sz zz_nx)) (va_Qv (fun _ : Unit => True) (fun _ => zz_post D vwCl [(cA, .int)] (va_A [(aM0, .inr (6, [.int (nI xth), .int (nI xw), .int (nI xn), .int (nI xk), .ref bmk, .ref bvl, .ref bln, .ref bfl, .ref bal, .ref bls, .ref bli, .ref bon, .ref bmn, .ref bbt, .ref bwo, .ref bto, .ref bun, .int (nI xnd), .ref bse, .ref bze, .ref bno, .ref bwa, .ref bpa, .int (nI xst), .ref bwd, .int (nI xh), .int (nI xb), .int (nI xt), .int (nI xta), .ref brw, .ref brf, .ref bra])), (bmn, .inl (cA, 6561, .inl (fun j => nI (fmn j)))), (bbt, .inl (cA, 19683, .inl (fun j => zz_o (fbt j)))), (bwo, .inl (cA, 19683, .inl (fun j => nI (fwo j)))), (bto, .inl (cA, 19683, .inl (fun j => nI (fto j)))), (bun, .inl (cA, 9, .inl (fun j => nI (zM_u j))))] sz) [(aM0, .inr (6, [.int (nI xth), .int (nI xw), .int (nI xn), .int (nI xk), .ref bmk, .ref bvl, .ref bln, .ref bfl, .ref bal, .ref bls, .ref bli, .ref bon, .ref bmn, .ref bbt, .ref bwo, .ref bto, .ref bun, .int (nI xnd), .ref bse, .ref bze, .ref bno, .ref bwa, .ref bpa, .int (nI xst), .ref bwd, .int (nI xh), .int (nI xb), .int (nI xt), .int (nI xta), .ref brw, .ref brf, .ref bra])), (bmn, .inl (cA, 6561, .inl (fun j => nI (fmn j)))), (bbt, .inl (cA, 19683, .inl (fun j => zz_o ((zz_up fbt (6561 * k9 + s9) (zM_ch fmn k9 s9 0 xw (0, fwo, fto)).1) j)))), (bwo, .inl (cA, 19683, .inl (fun j => nI (((zM_ch fmn k9 s9 0 xw (0, fwo, fto)).2.1) j)))), (bto, .inl (cA, 19683, .inl (fun j => nI (((zM_ch fmn k9 s9 0 xw (0, fwo, fto)).2.2) j)))), (bun, .inl (cA, 9, .inl (fun j => nI (zM_u j))))]) (va_A [(aM0, .inr (6, [.int (nI xth), .int (nI xw), .int (nI xn), .int (nI xk), .ref bmk, .ref bvl, .ref bln, .ref bfl, .ref bal, .ref bls, .ref bli, .ref bon, .ref bmn, .ref bbt, .ref bwo, .ref bto, .ref bun, .int (nI xnd), .ref bse, .ref bze, .ref bno, .ref bwa, .ref bpa, .int (nI xst), .ref bwd, .int (nI xh), .int (nI xb), .int (nI xt), .int (nI xta), .ref brw, .ref brf, .ref bra])), (bmn, .inl (cA, 6561, .inl (fun j => nI (fmn j)))), (bbt, .inl (cA, 19683, .inl (fun j => zz_o (fbt j)))), (bwo, .inl (cA, 19683, .inl (fun j => nI (fwo j)))), (bto, .inl (cA, 19683, .inl (fun j => nI (fto j)))), (bun, .inl (cA, 9, .inl (fun j => nI (zM_u j))))] sz)) 0 0 (va_A [(aM0, .inr (6, [.int (nI xth), .int (nI xw), .int (nI xn), .int (nI xk), .ref bmk, .ref bvl, .ref bln, .ref bfl, .ref bal, .ref bls, .ref bli, .ref bon, .ref bmn, .ref bbt, .ref bwo, .ref bto, .ref bun, .int (nI xnd), .ref bse, .ref bze, .ref bno, .ref bwa, .ref bpa, .int (nI xst), .ref bwd, .int (nI xh), .int (nI xb), .int (nI xt), .int (nI xta), .ref brw, .ref brf, .ref bra])), (bmn, .inl (cA, 6561, .inl (fun j => nI (fmn j)))), (bbt, .inl (cA, 19683, .inl (fun j => zz_o (fbt j)))), (bwo, .inl (cA, 19683, .inl (fun j => nI (fwo j)))), (bto, .inl (cA, 19683, .inl (fun j => nI (fto j)))), (bun, .inl (cA, 9, .inl (fun j => nI (zM_u j))))] sz) := by
  refine Met.ofW (cc := b_M_choose) (maxL := 10) (ret := none) (by decide) rfl ?_
  intro p e s m args below meth c s₁ B hml hv
  obtain ⟨rfl, hsz, hP, hK, hD0, hX⟩ := hv
  have hx := B.exec
  have hb := B.bytes
  have hr := B.returns
  have hts := atoms_spec (ws := ws_M_choose) B.pre
  have hown : s.vm.findClass "DecodeTestsModel" = some m.cls := findClass_of_methodNamed B.named
  have hlocks := B.notSynchronized
  have hT : ∀ w9 ∈ zz_T, w9.before ([.ref aM0, .int (nI k9), .int (nI s9)] : List Value).toArray s = true := fun w9 h => hts w9 (List.mem_cons_of_mem _ h)
  subst hsz
  have hD := hD0.self (sz := s.heap.size)
  generalize hAe : va_A [(aM0, .inr (6, [.int (nI xth), .int (nI xw), .int (nI xn), .int (nI xk), .ref bmk, .ref bvl, .ref bln, .ref bfl, .ref bal, .ref bls, .ref bli, .ref bon, .ref bmn, .ref bbt, .ref bwo, .ref bto, .ref bun, .int (nI xnd), .ref bse, .ref bze, .ref bno, .ref bwa, .ref bpa, .int (nI xst), .ref bwd, .int (nI xh), .int (nI xb), .int (nI xt), .int (nI xta), .ref brw, .ref brf, .ref bra])), (bmn, .inl (cA, 6561, .inl (fun j => nI (fmn j)))), (bbt, .inl (cA, 19683, .inl (fun j => zz_o (fbt j)))), (bwo, .inl (cA, 19683, .inl (fun j => nI (fwo j)))), (bto, .inl (cA, 19683, .inl (fun j => nI (fto j)))), (bun, .inl (cA, 9, .inl (fun j => nI (zM_u j))))] s.heap.size = A at hD hX ⊢
  have hA : ∀ q : Nat, s.heap.size ≤ q → A q := fun q h => by rw [← hAe]; exact Or.inr h
  have hS : va_S A s.heap s.heap [] := va_S.rf
  have hl := lv_entry ([.ref aM0, .int (nI k9), .int (nI s9)]) (n := 10) (Nat.le_of_ble_eq_true rfl)
  rw [lg_entry_eq]
  generalize (lg_sl ([.ref aM0, .int (nI k9), .int (nI s9)]) ++ List.replicate (10 - (lg_sl ([.ref aM0, .int (nI k9), .int (nI s9)])).length) Slot.unset).toArray = ls at hl ⊢
  have hl : lv_has ls 10 [(0, .ref aM0), (1, .int (nI k9)), (2, .int (nI s9))] := hl
  refine lv_iconst (v := -1) hx hb d_M_choose_0 (by decide) ?_
  refine zz_top (y := zz_o 0) (rfl) ?_
  refine lv_istore_n (lv' := [(3, .int (zz_o 0)), (0, .ref aM0), (1, .int (nI k9)), (2, .int (nI s9))]) hx hb d_M_choose_1 rfl hl (by decide) rfl (fun ls hl => ?_)
  refine lv_iconst (v := nI 0) hx hb d_M_choose_2 (by decide) ?_
  refine lv_istore (lv' := [(4, .int (nI 0)), (3, .int (zz_o 0)), (0, .ref aM0), (1, .int (nI k9)), (2, .int (nI s9))]) hx hb d_M_choose_3 hl (by decide) rfl (fun ls hl => ?_)
  have lp : ∀ (fu : Nat) (b : Nat) (bst : Nat) (wo : Nat → Nat) (to : Nat → Nat), (b ≤ xw) → (bst ≤ b) → (∀ j, j ≠ 6561 * k9 + s9 → wo j = fwo j) → (∀ j, j ≠ 6561 * k9 + s9 → to j = fto j) → (wo (6561 * k9 + s9) ≤ 9) → (to (6561 * k9 + s9) ≤ 4352) → (zM_ch fmn k9 s9 b (xw - b) (bst, wo, to) = zM_ch fmn k9 s9 0 xw (0, fwo, fto)) → xw - b < fu → ∀ (H : Heap) (locs : List Loc), va_P D vwCl [(aM0, .inr (6, [.int (nI xth), .int (nI xw), .int (nI xn), .int (nI xk), .ref bmk, .ref bvl, .ref bln, .ref bfl, .ref bal, .ref bls, .ref bli, .ref bon, .ref bmn, .ref bbt, .ref bwo, .ref bto, .ref bun, .int (nI xnd), .ref bse, .ref bze, .ref bno, .ref bwa, .ref bpa, .int (nI xst), .ref bwd, .int (nI xh), .int (nI xb), .int (nI xt), .int (nI xta), .ref brw, .ref brf, .ref bra])), (bmn, .inl (cA, 6561, .inl (fun j => nI (fmn j)))), (bbt, .inl (cA, 19683, .inl (fun j => zz_o (fbt j)))), (bwo, .inl (cA, 19683, .inl (fun j => nI (wo j)))), (bto, .inl (cA, 19683, .inl (fun j => nI (to j)))), (bun, .inl (cA, 9, .inl (fun j => nI (zM_u j))))] H → va_D A [(aM0, .inr (6, [.int (nI xth), .int (nI xw), .int (nI xn), .int (nI xk), .ref bmk, .ref bvl, .ref bln, .ref bfl, .ref bal, .ref bls, .ref bli, .ref bon, .ref bmn, .ref bbt, .ref bwo, .ref bto, .ref bun, .int (nI xnd), .ref bse, .ref bze, .ref bno, .ref bwa, .ref bpa, .int (nI xst), .ref bwd, .int (nI xh), .int (nI xb), .int (nI xt), .int (nI xta), .ref brw, .ref brf, .ref bra])), (bmn, .inl (cA, 6561, .inl (fun j => nI (fmn j)))), (bbt, .inl (cA, 19683, .inl (fun j => zz_o (fbt j)))), (bwo, .inl (cA, 19683, .inl (fun j => nI (wo j)))), (bto, .inl (cA, 19683, .inl (fun j => nI (to j)))), (bun, .inl (cA, 9, .inl (fun j => nI (zM_u j))))] → va_S A s.heap H locs → ∀ (ls : Array Slot), lv_has ls 10 [(0, .ref aM0), (1, .int (nI k9)), (2, .int (nI s9)), (3, .int (zz_o bst)), (4, .int (nI b))] → W p l e (headSpec ws_M_choose ({ frames := 1, cells := 0, slots := 0, locals := 23 })).room s m ([.ref aM0, .int (nI k9), .int (nI s9)] : List Value).toArray below meth c H locs 0 0 (MQ below (va_Qv (fun _ : Unit => True) (fun _ => zz_post D vwCl [(cA, .int)] A [(aM0, .inr (6, [.int (nI xth), .int (nI xw), .int (nI xn), .int (nI xk), .ref bmk, .ref bvl, .ref bln, .ref bfl, .ref bal, .ref bls, .ref bli, .ref bon, .ref bmn, .ref bbt, .ref bwo, .ref bto, .ref bun, .int (nI xnd), .ref bse, .ref bze, .ref bno, .ref bwa, .ref bpa, .int (nI xst), .ref bwd, .int (nI xh), .int (nI xb), .int (nI xt), .int (nI xta), .ref brw, .ref brf, .ref bra])), (bmn, .inl (cA, 6561, .inl (fun j => nI (fmn j)))), (bbt, .inl (cA, 19683, .inl (fun j => zz_o ((zz_up fbt (6561 * k9 + s9) (zM_ch fmn k9 s9 0 xw (0, fwo, fto)).1) j)))), (bwo, .inl (cA, 19683, .inl (fun j => nI (((zM_ch fmn k9 s9 0 xw (0, fwo, fto)).2.1) j)))), (bto, .inl (cA, 19683, .inl (fun j => nI (((zM_ch fmn k9 s9 0 xw (0, fwo, fto)).2.2) j)))), (bun, .inl (cA, 9, .inl (fun j => nI (zM_u j))))]) A) ([.ref aM0, .int (nI k9), .int (nI s9)] : List Value).toArray s 0 0 A) (F0 m 5 ls []) := by
    intro fu
    induction fu with
    | zero => intro b bst wo to hbb hbst hwe hte hws hts9 hinv hmu; exact absurd hmu (Nat.not_lt_zero _)
    | succ fu ih_lp =>
      intro b bst wo to hbb hbst hwe hte hws hts9 hinv hmu H locs hP hD hS ls hl
      refine lv_iload hx hb d_M_choose_5 (lv_at hl 4 rfl) ?_
      refine lv_aload_n hx hb d_M_choose_7 rfl (lv_at hl 0 rfl) ?_
      refine va_get (D := D) (ci := 6) (v := .int (nI xw)) (C := "DecodeTestsModel") (T := F_M) (N := 32) hx hb hT hin_M hown hK hP 0 rfl rfl 1 (by decide) (hT _ q_f_M_76) (fun _ h9 => h9) rfl d_M_choose_8 ?_
      refine lv_icmp_ge (tgt := 220) hx hb d_M_choose_11 (by decide) (fun c11 => ?_) (fun c11 => ?_)
      · rw [zz_le (by omega) (by omega)] at c11
        refine lv_aload_n hx hb d_M_choose_220 rfl (lv_at hl 0 rfl) ?_
        refine va_get (D := D) (ci := 6) (v := .ref bbt) (C := "DecodeTestsModel") (T := F_M) (N := 32) hx hb hT hin_M hown hK hP 0 rfl rfl 13 (by decide) (hT _ q_f_M_37) (fun _ h9 => h9) rfl d_M_choose_221 ?_
        refine lv_sipush (v := nI 6561) hx hb d_M_choose_224 (by decide) ?_
        refine lv_iload_n hx hb d_M_choose_227 rfl (lv_at hl 1 rfl) ?_
        refine lv_imul hx hb d_M_choose_228 ?_
        refine zz_top (y := nI (6561 * k9)) (pk_mul 6561 k9) ?_
        refine lv_iload_n hx hb d_M_choose_229 rfl (lv_at hl 2 rfl) ?_
        refine lv_iadd hx hb d_M_choose_230 ?_
        refine zz_top (y := nI (6561 * k9 + s9)) (nI_add (6561 * k9) s9) ?_
        refine lv_iload_n hx hb d_M_choose_231 rfl (lv_at hl 3 rfl) ?_
        refine zz_iastO hx hb hK hP hD hS 2 0 rfl rfl (j := 6561 * k9 + s9) (by omega) (by omega) d_M_choose_232 (fun H locs hP hD hS => ?_)
        have hP : va_P D vwCl [(aM0, .inr (6, [.int (nI xth), .int (nI xw), .int (nI xn), .int (nI xk), .ref bmk, .ref bvl, .ref bln, .ref bfl, .ref bal, .ref bls, .ref bli, .ref bon, .ref bmn, .ref bbt, .ref bwo, .ref bto, .ref bun, .int (nI xnd), .ref bse, .ref bze, .ref bno, .ref bwa, .ref bpa, .int (nI xst), .ref bwd, .int (nI xh), .int (nI xb), .int (nI xt), .int (nI xta), .ref brw, .ref brf, .ref bra])), (bmn, .inl (cA, 6561, .inl (fun j => nI (fmn j)))), (bbt, .inl (cA, 19683, .inl (fun j => zz_o ((zz_up fbt (6561 * k9 + s9) bst) j)))), (bwo, .inl (cA, 19683, .inl (fun j => nI (wo j)))), (bto, .inl (cA, 19683, .inl (fun j => nI (to j)))), (bun, .inl (cA, 9, .inl (fun j => nI (zM_u j))))] H := hP
        have hD : va_D A [(aM0, .inr (6, [.int (nI xth), .int (nI xw), .int (nI xn), .int (nI xk), .ref bmk, .ref bvl, .ref bln, .ref bfl, .ref bal, .ref bls, .ref bli, .ref bon, .ref bmn, .ref bbt, .ref bwo, .ref bto, .ref bun, .int (nI xnd), .ref bse, .ref bze, .ref bno, .ref bwa, .ref bpa, .int (nI xst), .ref bwd, .int (nI xh), .int (nI xb), .int (nI xt), .int (nI xta), .ref brw, .ref brf, .ref bra])), (bmn, .inl (cA, 6561, .inl (fun j => nI (fmn j)))), (bbt, .inl (cA, 19683, .inl (fun j => zz_o ((zz_up fbt (6561 * k9 + s9) bst) j)))), (bwo, .inl (cA, 19683, .inl (fun j => nI (wo j)))), (bto, .inl (cA, 19683, .inl (fun j => nI (to j)))), (bun, .inl (cA, 9, .inl (fun j => nI (zM_u j))))] := hD
        have hP : va_P D vwCl [(aM0, .inr (6, [.int (nI xth), .int (nI xw), .int (nI xn), .int (nI xk), .ref bmk, .ref bvl, .ref bln, .ref bfl, .ref bal, .ref bls, .ref bli, .ref bon, .ref bmn, .ref bbt, .ref bwo, .ref bto, .ref bun, .int (nI xnd), .ref bse, .ref bze, .ref bno, .ref bwa, .ref bpa, .int (nI xst), .ref bwd, .int (nI xh), .int (nI xb), .int (nI xt), .int (nI xta), .ref brw, .ref brf, .ref bra])), (bmn, .inl (cA, 6561, .inl (fun j => nI (fmn j)))), (bbt, .inl (cA, 19683, .inl (fun j => zz_o ((zz_up fbt (6561 * k9 + s9) (zM_ch fmn k9 s9 0 xw (0, fwo, fto)).1) j)))), (bwo, .inl (cA, 19683, .inl (fun j => nI (((zM_ch fmn k9 s9 0 xw (0, fwo, fto)).2.1) j)))), (bto, .inl (cA, 19683, .inl (fun j => nI (((zM_ch fmn k9 s9 0 xw (0, fwo, fto)).2.2) j)))), (bun, .inl (cA, 9, .inl (fun j => nI (zM_u j))))] H := by rw [← hinv, zM_ch_e (by omega)]; exact hP
        have hD : va_D A [(aM0, .inr (6, [.int (nI xth), .int (nI xw), .int (nI xn), .int (nI xk), .ref bmk, .ref bvl, .ref bln, .ref bfl, .ref bal, .ref bls, .ref bli, .ref bon, .ref bmn, .ref bbt, .ref bwo, .ref bto, .ref bun, .int (nI xnd), .ref bse, .ref bze, .ref bno, .ref bwa, .ref bpa, .int (nI xst), .ref bwd, .int (nI xh), .int (nI xb), .int (nI xt), .int (nI xta), .ref brw, .ref brf, .ref bra])), (bmn, .inl (cA, 6561, .inl (fun j => nI (fmn j)))), (bbt, .inl (cA, 19683, .inl (fun j => zz_o ((zz_up fbt (6561 * k9 + s9) (zM_ch fmn k9 s9 0 xw (0, fwo, fto)).1) j)))), (bwo, .inl (cA, 19683, .inl (fun j => nI (((zM_ch fmn k9 s9 0 xw (0, fwo, fto)).2.1) j)))), (bto, .inl (cA, 19683, .inl (fun j => nI (((zM_ch fmn k9 s9 0 xw (0, fwo, fto)).2.2) j)))), (bun, .inl (cA, 9, .inl (fun j => nI (zM_u j))))] := by rw [← hinv, zM_ch_e (by omega)]; exact hD
        exact W.vret hx hb hr (fun t ht hW => ⟨⟨(), rfl, trivial, by rw [ht]; exact hP, va_K.moved hW.alike hK, hD⟩, hS.F ht⟩) hS.2.2 d_M_choose_233
      · rw [zz_le (by omega) (by omega)] at c11
        refine lv_aload_n hx hb d_M_choose_14 rfl (lv_at hl 0 rfl) ?_
        refine lv_iload_n hx hb d_M_choose_15 rfl (lv_at hl 2 rfl) ?_
        refine lv_iload hx hb d_M_choose_16 (lv_at hl 4 rfl) ?_
        refine zz_rV (As := [.int (nI s9), .int (nI b)]) (rest := []) (r := nI (zM_dg s9 b)) ⟨hx, hb, hml, hown, hts⟩ (c_M_digit l _ _ aM0 xth xw xn xk xnd xst xh xb xt xta bmk bvl bln bfl bal bls bli bon bmn bbt bwo bto bun bse bze bno bwa bpa bwd brw brf bra s9 b (by omega) (by omega)) (cwV 2 hts g_M_choose_104 rfl rfl rfl k_M_digit ⟨show 0 + 1 ≤ 1 by omega, show 8 + (3 + 11) + 0 ≤ 23 by omega⟩) (zz_blind_nx) hK (hP.sub (ws' := [(aM0, .inr (6, [.int (nI xth), .int (nI xw), .int (nI xn), .int (nI xk), .ref bmk, .ref bvl, .ref bln, .ref bfl, .ref bal, .ref bls, .ref bli, .ref bon, .ref bmn, .ref bbt, .ref bwo, .ref bto, .ref bun, .int (nI xnd), .ref bse, .ref bze, .ref bno, .ref bwa, .ref bpa, .int (nI xst), .ref bwd, .int (nI xh), .int (nI xb), .int (nI xt), .int (nI xta), .ref brw, .ref brf, .ref bra])), (bun, .inl (cA, 9, .inl (fun j => nI (zM_u j))))]) [0, 5] rfl) (fun _ _ _ => trivial) 6 0 rfl rfl rfl hl.1 rfl (Nat.le_of_ble_eq_true rfl) d_M_choose_18 ⟨Nat.zero_le _, Nat.zero_le _⟩ ?_
        have d3 := zM_dg_lt s9 b
        refine lv_iconst (v := nI 2) hx hb d_M_choose_21 (by decide) ?_
        refine lv_icmp_ne (tgt := 214) hx hb d_M_choose_22 (by decide) (fun c22 => ?_) (fun c22 => ?_)
        · rw [zz_eq (by omega) (by omega)] at c22
          refine lv_iinc (v := nI (b + 1)) (lv' := [(4, .int (nI (b + 1))), (0, .ref aM0), (1, .int (nI k9)), (2, .int (nI s9)), (3, .int (zz_o bst))]) hx hb d_M_choose_214 hl (k := 4) rfl (nI_add b 1) (by decide) rfl (fun ls hl => ?_)
          refine lv_goto (tgt := 5) hx hb d_M_choose_217 (by decide) ?_
          exact ih_lp (b + 1) bst wo to (by omega) (by omega) hwe hte hws hts9 (by rw [← hinv, zM_ch_s (b := b) (n := xw) (by omega), zM_ch1_no c22]) (by omega) H locs hP hD hS ls (lv_sub hl [1, 2, 3, 4, 0] rfl)
        · rw [zz_eq (by omega) (by omega)] at c22
          have s0 := hside b (by omega) c22
          have q3 := zz_3pos b
          have s1 : (2 - 1) * 3 ^ b ≤ s9 := by omega
          obtain ⟨u1, u2, u3, u4⟩ := hwb b (by omega) c22
          have e1 : wo (6561 * k9 + (s9 - (2 - 0) * 3 ^ b)) = fwo (6561 * k9 + (s9 - (2 - 0) * 3 ^ b)) := hwe _ (by omega)
          have e2 : wo (6561 * k9 + (s9 - (2 - 1) * 3 ^ b)) = fwo (6561 * k9 + (s9 - (2 - 1) * 3 ^ b)) := hwe _ (by omega)
          have e3 : to (6561 * k9 + (s9 - (2 - 0) * 3 ^ b)) = fto (6561 * k9 + (s9 - (2 - 0) * 3 ^ b)) := hte _ (by omega)
          have e4 : to (6561 * k9 + (s9 - (2 - 1) * 3 ^ b)) = fto (6561 * k9 + (s9 - (2 - 1) * 3 ^ b)) := hte _ (by omega)
          rw [← e1] at u1
          rw [← e2] at u2
          rw [← e3] at u3
          rw [← e4] at u4
          refine lv_sipush (v := nI 6561) hx hb d_M_choose_25 (by decide) ?_
          refine lv_iload_n hx hb d_M_choose_28 rfl (lv_at hl 1 rfl) ?_
          refine lv_imul hx hb d_M_choose_29 ?_
          refine zz_top (y := nI (6561 * k9)) (pk_mul 6561 k9) ?_
          refine lv_aload_n hx hb d_M_choose_30 rfl (lv_at hl 0 rfl) ?_
          refine lv_iload_n hx hb d_M_choose_31 rfl (lv_at hl 2 rfl) ?_
          refine lv_iload hx hb d_M_choose_32 (lv_at hl 4 rfl) ?_
          refine lv_iconst (v := nI 0) hx hb d_M_choose_34 (by decide) ?_
          refine zz_rV (As := [.int (nI s9), .int (nI b), .int (nI 0)]) (rest := [.int (nI (6561 * k9))]) (r := nI (s9 - (2 - 0) * 3 ^ b)) ⟨hx, hb, hml, hown, hts⟩ (c_M_half l _ _ aM0 xth xw xn xk xnd xst xh xb xt xta bmk bvl bln bfl bal bls bli bon bmn bbt bwo bto bun bse bze bno bwa bpa bwd brw brf bra s9 b 0 (by omega) (by omega) (by omega)) (cwV 3 hts g_M_choose_108 rfl rfl rfl k_M_half ⟨show 0 + 1 ≤ 1 by omega, show 8 + (4 + 11) + 0 ≤ 23 by omega⟩) (zz_blind_nx) hK (hP.sub (ws' := [(aM0, .inr (6, [.int (nI xth), .int (nI xw), .int (nI xn), .int (nI xk), .ref bmk, .ref bvl, .ref bln, .ref bfl, .ref bal, .ref bls, .ref bli, .ref bon, .ref bmn, .ref bbt, .ref bwo, .ref bto, .ref bun, .int (nI xnd), .ref bse, .ref bze, .ref bno, .ref bwa, .ref bpa, .int (nI xst), .ref bwd, .int (nI xh), .int (nI xb), .int (nI xt), .int (nI xta), .ref brw, .ref brf, .ref bra])), (bun, .inl (cA, 9, .inl (fun j => nI (zM_u j))))]) [0, 5] rfl) (fun _ _ _ => trivial) 6 0 rfl rfl rfl hl.1 rfl (Nat.le_of_ble_eq_true rfl) d_M_choose_35 ⟨Nat.zero_le _, Nat.zero_le _⟩ ?_
          refine lv_iadd hx hb d_M_choose_38 ?_
          refine zz_top (y := nI (6561 * k9 + (s9 - (2 - 0) * 3 ^ b))) (nI_add (6561 * k9) (s9 - (2 - 0) * 3 ^ b)) ?_
          refine lv_istore (lv' := [(5, .int (nI (6561 * k9 + (s9 - (2 - 0) * 3 ^ b)))), (0, .ref aM0), (1, .int (nI k9)), (2, .int (nI s9)), (3, .int (zz_o bst)), (4, .int (nI b))]) hx hb d_M_choose_39 hl (by decide) rfl (fun ls hl => ?_)
          refine lv_sipush (v := nI 6561) hx hb d_M_choose_41 (by decide) ?_
          refine lv_iload_n hx hb d_M_choose_44 rfl (lv_at hl 2 rfl) ?_
          refine lv_imul hx hb d_M_choose_45 ?_
          refine zz_top (y := nI (6561 * k9)) (pk_mul 6561 k9) ?_
          refine lv_aload_n hx hb d_M_choose_46 rfl (lv_at hl 1 rfl) ?_
          refine lv_iload_n hx hb d_M_choose_47 rfl (lv_at hl 3 rfl) ?_
          refine lv_iload hx hb d_M_choose_48 (lv_at hl 5 rfl) ?_
          refine lv_iconst (v := nI 1) hx hb d_M_choose_50 (by decide) ?_
          refine zz_rV (As := [.int (nI s9), .int (nI b), .int (nI 1)]) (rest := [.int (nI (6561 * k9))]) (r := nI (s9 - (2 - 1) * 3 ^ b)) ⟨hx, hb, hml, hown, hts⟩ (c_M_half l _ _ aM0 xth xw xn xk xnd xst xh xb xt xta bmk bvl bln bfl bal bls bli bon bmn bbt bwo bto bun bse bze bno bwa bpa bwd brw brf bra s9 b 1 (by omega) (by omega) (by omega)) (cwV 3 hts g_M_choose_108 rfl rfl rfl k_M_half ⟨show 0 + 1 ≤ 1 by omega, show 8 + (4 + 11) + 0 ≤ 23 by omega⟩) (zz_blind_nx) hK (hP.sub (ws' := [(aM0, .inr (6, [.int (nI xth), .int (nI xw), .int (nI xn), .int (nI xk), .ref bmk, .ref bvl, .ref bln, .ref bfl, .ref bal, .ref bls, .ref bli, .ref bon, .ref bmn, .ref bbt, .ref bwo, .ref bto, .ref bun, .int (nI xnd), .ref bse, .ref bze, .ref bno, .ref bwa, .ref bpa, .int (nI xst), .ref bwd, .int (nI xh), .int (nI xb), .int (nI xt), .int (nI xta), .ref brw, .ref brf, .ref bra])), (bun, .inl (cA, 9, .inl (fun j => nI (zM_u j))))]) [0, 5] rfl) (fun _ _ _ => trivial) 6 0 rfl rfl rfl hl.1 rfl (Nat.le_of_ble_eq_true rfl) d_M_choose_51 ⟨Nat.zero_le _, Nat.zero_le _⟩ ?_
          refine lv_iadd hx hb d_M_choose_54 ?_
          refine zz_top (y := nI (6561 * k9 + (s9 - (2 - 1) * 3 ^ b))) (nI_add (6561 * k9) (s9 - (2 - 1) * 3 ^ b)) ?_
          refine lv_istore (lv' := [(6, .int (nI (6561 * k9 + (s9 - (2 - 1) * 3 ^ b)))), (5, .int (nI (6561 * k9 + (s9 - (2 - 0) * 3 ^ b)))), (0, .ref aM0), (1, .int (nI k9)), (2, .int (nI s9)), (3, .int (zz_o bst)), (4, .int (nI b))]) hx hb d_M_choose_55 hl (by decide) rfl (fun ls hl => ?_)
          refine lv_iconst (v := nI 1) hx hb d_M_choose_57 (by decide) ?_
          refine lv_aload_n hx hb d_M_choose_58 rfl (lv_at hl 2 rfl) ?_
          refine va_get (D := D) (ci := 6) (v := .ref bwo) (C := "DecodeTestsModel") (T := F_M) (N := 32) hx hb hT hin_M hown hK hP 0 rfl rfl 14 (by decide) (hT _ q_f_M_40) (fun _ h9 => h9) rfl d_M_choose_59 ?_
          refine lv_iload hx hb d_M_choose_62 (lv_at hl 1 rfl) ?_
          refine zz_iald hx hb hK hP 3 0 rfl rfl (j := 6561 * k9 + (s9 - (2 - 0) * 3 ^ b)) (by omega) (by omega) d_M_choose_64 ?_
          refine zz_top (y := nI (wo (6561 * k9 + (s9 - (2 - 0) * 3 ^ b)))) rfl ?_
          refine lv_aload_n hx hb d_M_choose_65 rfl (lv_at hl 2 rfl) ?_
          refine va_get (D := D) (ci := 6) (v := .ref bwo) (C := "DecodeTestsModel") (T := F_M) (N := 32) hx hb hT hin_M hown hK hP 0 rfl rfl 14 (by decide) (hT _ q_f_M_40) (fun _ h9 => h9) rfl d_M_choose_66 ?_
          refine lv_iload hx hb d_M_choose_69 (lv_at hl 0 rfl) ?_
          refine zz_iald hx hb hK hP 3 0 rfl rfl (j := 6561 * k9 + (s9 - (2 - 1) * 3 ^ b)) (by omega) (by omega) d_M_choose_71 ?_
          refine zz_top (y := nI (wo (6561 * k9 + (s9 - (2 - 1) * 3 ^ b)))) rfl ?_
          have jm : ∀ (mx : Nat), (mx = max (wo (6561 * k9 + (s9 - (2 - 0) * 3 ^ b))) (wo (6561 * k9 + (s9 - (2 - 1) * 3 ^ b)))) → ∀ (ls : Array Slot), lv_has ls 10 [(0, .ref aM0), (1, .int (nI k9)), (2, .int (nI s9)), (3, .int (zz_o bst)), (4, .int (nI b)), (5, .int (nI (6561 * k9 + (s9 - (2 - 0) * 3 ^ b)))), (6, .int (nI (6561 * k9 + (s9 - (2 - 1) * 3 ^ b))))] → W p l e (headSpec ws_M_choose ({ frames := 1, cells := 0, slots := 0, locals := 23 })).room s m ([.ref aM0, .int (nI k9), .int (nI s9)] : List Value).toArray below meth c H locs 0 0 (MQ below (va_Qv (fun _ : Unit => True) (fun _ => zz_post D vwCl [(cA, .int)] A [(aM0, .inr (6, [.int (nI xth), .int (nI xw), .int (nI xn), .int (nI xk), .ref bmk, .ref bvl, .ref bln, .ref bfl, .ref bal, .ref bls, .ref bli, .ref bon, .ref bmn, .ref bbt, .ref bwo, .ref bto, .ref bun, .int (nI xnd), .ref bse, .ref bze, .ref bno, .ref bwa, .ref bpa, .int (nI xst), .ref bwd, .int (nI xh), .int (nI xb), .int (nI xt), .int (nI xta), .ref brw, .ref brf, .ref bra])), (bmn, .inl (cA, 6561, .inl (fun j => nI (fmn j)))), (bbt, .inl (cA, 19683, .inl (fun j => zz_o ((zz_up fbt (6561 * k9 + s9) (zM_ch fmn k9 s9 0 xw (0, fwo, fto)).1) j)))), (bwo, .inl (cA, 19683, .inl (fun j => nI (((zM_ch fmn k9 s9 0 xw (0, fwo, fto)).2.1) j)))), (bto, .inl (cA, 19683, .inl (fun j => nI (((zM_ch fmn k9 s9 0 xw (0, fwo, fto)).2.2) j)))), (bun, .inl (cA, 9, .inl (fun j => nI (zM_u j))))]) A) ([.ref aM0, .int (nI k9), .int (nI s9)] : List Value).toArray s 0 0 A) (F0 m 92 ls [.int (nI mx), .int (nI 1)]) := by
            intro mx hmx ls hl
            refine lv_iadd hx hb d_M_choose_92 ?_
            refine zz_top (y := nI (1 + mx)) (nI_add 1 mx) ?_
            refine lv_istore (lv' := [(7, .int (nI (1 + mx))), (0, .ref aM0), (1, .int (nI k9)), (2, .int (nI s9)), (3, .int (zz_o bst)), (4, .int (nI b)), (5, .int (nI (6561 * k9 + (s9 - (2 - 0) * 3 ^ b)))), (6, .int (nI (6561 * k9 + (s9 - (2 - 1) * 3 ^ b))))]) hx hb d_M_choose_93 hl (by decide) rfl (fun ls hl => ?_)
            refine lv_aload_n hx hb d_M_choose_95 rfl (lv_at hl 1 rfl) ?_
            refine va_get (D := D) (ci := 6) (v := .ref bmn) (C := "DecodeTestsModel") (T := F_M) (N := 32) hx hb hT hin_M hown hK hP 0 rfl rfl 12 (by decide) (hT _ q_f_M_34) (fun _ h9 => h9) rfl d_M_choose_96 ?_
            refine lv_iload_n hx hb d_M_choose_99 rfl (lv_at hl 3 rfl) ?_
            refine zz_iald hx hb hK hP 1 0 rfl rfl (j := s9) (by omega) (by omega) d_M_choose_100 ?_
            refine zz_top (y := nI (fmn s9)) rfl ?_
            refine lv_aload_n hx hb d_M_choose_101 rfl (lv_at hl 1 rfl) ?_
            refine va_get (D := D) (ci := 6) (v := .ref bto) (C := "DecodeTestsModel") (T := F_M) (N := 32) hx hb hT hin_M hown hK hP 0 rfl rfl 15 (by decide) (hT _ q_f_M_43) (fun _ h9 => h9) rfl d_M_choose_102 ?_
            refine lv_iload hx hb d_M_choose_105 (lv_at hl 6 rfl) ?_
            refine zz_iald hx hb hK hP 4 0 rfl rfl (j := 6561 * k9 + (s9 - (2 - 0) * 3 ^ b)) (by omega) (by omega) d_M_choose_107 ?_
            refine zz_top (y := nI (to (6561 * k9 + (s9 - (2 - 0) * 3 ^ b)))) rfl ?_
            refine lv_iadd hx hb d_M_choose_108 ?_
            refine zz_top (y := nI (fmn s9 + (to (6561 * k9 + (s9 - (2 - 0) * 3 ^ b))))) (nI_add (fmn s9) (to (6561 * k9 + (s9 - (2 - 0) * 3 ^ b)))) ?_
            refine lv_aload_n hx hb d_M_choose_109 rfl (lv_at hl 1 rfl) ?_
            refine va_get (D := D) (ci := 6) (v := .ref bto) (C := "DecodeTestsModel") (T := F_M) (N := 32) hx hb hT hin_M hown hK hP 0 rfl rfl 15 (by decide) (hT _ q_f_M_43) (fun _ h9 => h9) rfl d_M_choose_110 ?_
            refine lv_iload hx hb d_M_choose_113 (lv_at hl 7 rfl) ?_
            refine zz_iald hx hb hK hP 4 0 rfl rfl (j := 6561 * k9 + (s9 - (2 - 1) * 3 ^ b)) (by omega) (by omega) d_M_choose_115 ?_
            refine zz_top (y := nI (to (6561 * k9 + (s9 - (2 - 1) * 3 ^ b)))) rfl ?_
            refine lv_iadd hx hb d_M_choose_116 ?_
            refine zz_top (y := nI ((fmn s9 + (to (6561 * k9 + (s9 - (2 - 0) * 3 ^ b)))) + (to (6561 * k9 + (s9 - (2 - 1) * 3 ^ b))))) (nI_add (fmn s9 + (to (6561 * k9 + (s9 - (2 - 0) * 3 ^ b)))) (to (6561 * k9 + (s9 - (2 - 1) * 3 ^ b)))) ?_
            refine lv_istore (lv' := [(8, .int (nI ((fmn s9 + (to (6561 * k9 + (s9 - (2 - 0) * 3 ^ b)))) + (to (6561 * k9 + (s9 - (2 - 1) * 3 ^ b)))))), (7, .int (nI (1 + mx))), (0, .ref aM0), (1, .int (nI k9)), (2, .int (nI s9)), (3, .int (zz_o bst)), (4, .int (nI b)), (5, .int (nI (6561 * k9 + (s9 - (2 - 0) * 3 ^ b)))), (6, .int (nI (6561 * k9 + (s9 - (2 - 1) * 3 ^ b))))]) hx hb d_M_choose_117 hl (by decide) rfl (fun ls hl => ?_)
            subst hmx
            have hl : lv_has ls 10 [(8, .int (nI ((fmn s9 + (to (6561 * k9 + (s9 - (2 - 0) * 3 ^ b)))) + (to (6561 * k9 + (s9 - (2 - 1) * 3 ^ b)))))), (7, .int (nI (1 + max (wo (6561 * k9 + (s9 - (2 - 0) * 3 ^ b))) (wo (6561 * k9 + (s9 - (2 - 1) * 3 ^ b)))))), (0, .ref aM0), (1, .int (nI k9)), (2, .int (nI s9)), (3, .int (zz_o bst)), (4, .int (nI b)), (5, .int (nI (6561 * k9 + (s9 - (2 - 0) * 3 ^ b)))), (6, .int (nI (6561 * k9 + (s9 - (2 - 1) * 3 ^ b))))] := hl
            have jb : ∀ (bt : Bool), (bt = zM_bt k9 bst (1 + max (wo (6561 * k9 + (s9 - (2 - 0) * 3 ^ b))) (wo (6561 * k9 + (s9 - (2 - 1) * 3 ^ b)))) (fmn s9 + to (6561 * k9 + (s9 - (2 - 0) * 3 ^ b)) + to (6561 * k9 + (s9 - (2 - 1) * 3 ^ b))) (wo (6561 * k9 + s9)) (to (6561 * k9 + s9))) → ∀ (ls : Array Slot), lv_has ls 10 [(0, .ref aM0), (1, .int (nI k9)), (2, .int (nI s9)), (3, .int (zz_o bst)), (4, .int (nI b)), (5, .int (nI (6561 * k9 + (s9 - (2 - 0) * 3 ^ b)))), (6, .int (nI (6561 * k9 + (s9 - (2 - 1) * 3 ^ b)))), (7, .int (nI (1 + max (wo (6561 * k9 + (s9 - (2 - 0) * 3 ^ b))) (wo (6561 * k9 + (s9 - (2 - 1) * 3 ^ b)))))), (8, .int (nI (fmn s9 + to (6561 * k9 + (s9 - (2 - 0) * 3 ^ b)) + to (6561 * k9 + (s9 - (2 - 1) * 3 ^ b)))))] → W p l e (headSpec ws_M_choose ({ frames := 1, cells := 0, slots := 0, locals := 23 })).room s m ([.ref aM0, .int (nI k9), .int (nI s9)] : List Value).toArray below meth c H locs 0 0 (MQ below (va_Qv (fun _ : Unit => True) (fun _ => zz_post D vwCl [(cA, .int)] A [(aM0, .inr (6, [.int (nI xth), .int (nI xw), .int (nI xn), .int (nI xk), .ref bmk, .ref bvl, .ref bln, .ref bfl, .ref bal, .ref bls, .ref bli, .ref bon, .ref bmn, .ref bbt, .ref bwo, .ref bto, .ref bun, .int (nI xnd), .ref bse, .ref bze, .ref bno, .ref bwa, .ref bpa, .int (nI xst), .ref bwd, .int (nI xh), .int (nI xb), .int (nI xt), .int (nI xta), .ref brw, .ref brf, .ref bra])), (bmn, .inl (cA, 6561, .inl (fun j => nI (fmn j)))), (bbt, .inl (cA, 19683, .inl (fun j => zz_o ((zz_up fbt (6561 * k9 + s9) (zM_ch fmn k9 s9 0 xw (0, fwo, fto)).1) j)))), (bwo, .inl (cA, 19683, .inl (fun j => nI (((zM_ch fmn k9 s9 0 xw (0, fwo, fto)).2.1) j)))), (bto, .inl (cA, 19683, .inl (fun j => nI (((zM_ch fmn k9 s9 0 xw (0, fwo, fto)).2.2) j)))), (bun, .inl (cA, 9, .inl (fun j => nI (zM_u j))))]) A) ([.ref aM0, .int (nI k9), .int (nI s9)] : List Value).toArray s 0 0 A) (F0 m 176 ls [.int (nI (zz_b bt))]) := by
              intro bt hbt ls hl
              refine lv_istore (lv' := [(9, .int (nI (zz_b bt))), (0, .ref aM0), (1, .int (nI k9)), (2, .int (nI s9)), (3, .int (zz_o bst)), (4, .int (nI b)), (5, .int (nI (6561 * k9 + (s9 - (2 - 0) * 3 ^ b)))), (6, .int (nI (6561 * k9 + (s9 - (2 - 1) * 3 ^ b)))), (7, .int (nI (1 + max (wo (6561 * k9 + (s9 - (2 - 0) * 3 ^ b))) (wo (6561 * k9 + (s9 - (2 - 1) * 3 ^ b)))))), (8, .int (nI (fmn s9 + to (6561 * k9 + (s9 - (2 - 0) * 3 ^ b)) + to (6561 * k9 + (s9 - (2 - 1) * 3 ^ b)))))]) hx hb d_M_choose_176 hl (by decide) rfl (fun ls hl => ?_)
              refine lv_iload hx hb d_M_choose_178 (lv_at hl 0 rfl) ?_
              refine lv_if_eq (tgt := 214) hx hb d_M_choose_180 (by decide) (fun c180 => ?_) (fun c180 => ?_)
              · rw [zz_b0] at c180
                refine lv_iinc (v := nI (b + 1)) (lv' := [(4, .int (nI (b + 1))), (9, .int (nI (zz_b bt))), (0, .ref aM0), (1, .int (nI k9)), (2, .int (nI s9)), (3, .int (zz_o bst)), (5, .int (nI (6561 * k9 + (s9 - (2 - 0) * 3 ^ b)))), (6, .int (nI (6561 * k9 + (s9 - (2 - 1) * 3 ^ b)))), (7, .int (nI (1 + max (wo (6561 * k9 + (s9 - (2 - 0) * 3 ^ b))) (wo (6561 * k9 + (s9 - (2 - 1) * 3 ^ b)))))), (8, .int (nI (fmn s9 + to (6561 * k9 + (s9 - (2 - 0) * 3 ^ b)) + to (6561 * k9 + (s9 - (2 - 1) * 3 ^ b)))))]) hx hb d_M_choose_214 hl (k := 5) rfl (nI_add b 1) (by decide) rfl (fun ls hl => ?_)
                refine lv_goto (tgt := 5) hx hb d_M_choose_217 (by decide) ?_
                exact ih_lp (b + 1) bst wo to (by omega) (by omega) hwe hte hws hts9 (by rw [← hinv, zM_ch_s (b := b) (n := xw) (by omega), zM_ch1, if_pos c22, if_neg (by rw [← hbt, c180]; decide)]) (by omega) H locs hP hD hS ls (lv_sub hl [2, 3, 4, 5, 0] rfl)
              · rw [zz_bn0] at c180
                refine lv_iload hx hb d_M_choose_183 (lv_at hl 5 rfl) ?_
                refine zz_top (y := zz_o (b + 1)) (rfl) ?_
                refine lv_istore_n (lv' := [(3, .int (zz_o (b + 1))), (9, .int (nI (zz_b bt))), (0, .ref aM0), (1, .int (nI k9)), (2, .int (nI s9)), (4, .int (nI b)), (5, .int (nI (6561 * k9 + (s9 - (2 - 0) * 3 ^ b)))), (6, .int (nI (6561 * k9 + (s9 - (2 - 1) * 3 ^ b)))), (7, .int (nI (1 + max (wo (6561 * k9 + (s9 - (2 - 0) * 3 ^ b))) (wo (6561 * k9 + (s9 - (2 - 1) * 3 ^ b)))))), (8, .int (nI (fmn s9 + to (6561 * k9 + (s9 - (2 - 0) * 3 ^ b)) + to (6561 * k9 + (s9 - (2 - 1) * 3 ^ b)))))]) hx hb d_M_choose_185 rfl hl (by decide) rfl (fun ls hl => ?_)
                refine lv_aload_n hx hb d_M_choose_186 rfl (lv_at hl 2 rfl) ?_
                refine va_get (D := D) (ci := 6) (v := .ref bwo) (C := "DecodeTestsModel") (T := F_M) (N := 32) hx hb hT hin_M hown hK hP 0 rfl rfl 14 (by decide) (hT _ q_f_M_40) (fun _ h9 => h9) rfl d_M_choose_187 ?_
                refine lv_sipush (v := nI 6561) hx hb d_M_choose_190 (by decide) ?_
                refine lv_iload_n hx hb d_M_choose_193 rfl (lv_at hl 3 rfl) ?_
                refine lv_imul hx hb d_M_choose_194 ?_
                refine zz_top (y := nI (6561 * k9)) (pk_mul 6561 k9) ?_
                refine lv_iload_n hx hb d_M_choose_195 rfl (lv_at hl 4 rfl) ?_
                refine lv_iadd hx hb d_M_choose_196 ?_
                refine zz_top (y := nI (6561 * k9 + s9)) (nI_add (6561 * k9) s9) ?_
                refine lv_iload hx hb d_M_choose_197 (lv_at hl 8 rfl) ?_
                refine zz_iastN hx hb hK hP hD hS 3 0 rfl rfl (j := 6561 * k9 + s9) (by omega) (by omega) d_M_choose_199 (fun H locs hP hD hS => ?_)
                have hP : va_P D vwCl [(aM0, .inr (6, [.int (nI xth), .int (nI xw), .int (nI xn), .int (nI xk), .ref bmk, .ref bvl, .ref bln, .ref bfl, .ref bal, .ref bls, .ref bli, .ref bon, .ref bmn, .ref bbt, .ref bwo, .ref bto, .ref bun, .int (nI xnd), .ref bse, .ref bze, .ref bno, .ref bwa, .ref bpa, .int (nI xst), .ref bwd, .int (nI xh), .int (nI xb), .int (nI xt), .int (nI xta), .ref brw, .ref brf, .ref bra])), (bmn, .inl (cA, 6561, .inl (fun j => nI (fmn j)))), (bbt, .inl (cA, 19683, .inl (fun j => zz_o (fbt j)))), (bwo, .inl (cA, 19683, .inl (fun j => nI ((zz_up wo (6561 * k9 + s9) (1 + max (wo (6561 * k9 + (s9 - (2 - 0) * 3 ^ b))) (wo (6561 * k9 + (s9 - (2 - 1) * 3 ^ b))))) j)))), (bto, .inl (cA, 19683, .inl (fun j => nI (to j)))), (bun, .inl (cA, 9, .inl (fun j => nI (zM_u j))))] H := hP
                have hD : va_D A [(aM0, .inr (6, [.int (nI xth), .int (nI xw), .int (nI xn), .int (nI xk), .ref bmk, .ref bvl, .ref bln, .ref bfl, .ref bal, .ref bls, .ref bli, .ref bon, .ref bmn, .ref bbt, .ref bwo, .ref bto, .ref bun, .int (nI xnd), .ref bse, .ref bze, .ref bno, .ref bwa, .ref bpa, .int (nI xst), .ref bwd, .int (nI xh), .int (nI xb), .int (nI xt), .int (nI xta), .ref brw, .ref brf, .ref bra])), (bmn, .inl (cA, 6561, .inl (fun j => nI (fmn j)))), (bbt, .inl (cA, 19683, .inl (fun j => zz_o (fbt j)))), (bwo, .inl (cA, 19683, .inl (fun j => nI ((zz_up wo (6561 * k9 + s9) (1 + max (wo (6561 * k9 + (s9 - (2 - 0) * 3 ^ b))) (wo (6561 * k9 + (s9 - (2 - 1) * 3 ^ b))))) j)))), (bto, .inl (cA, 19683, .inl (fun j => nI (to j)))), (bun, .inl (cA, 9, .inl (fun j => nI (zM_u j))))] := hD
                refine lv_aload_n hx hb d_M_choose_200 rfl (lv_at hl 2 rfl) ?_
                refine va_get (D := D) (ci := 6) (v := .ref bto) (C := "DecodeTestsModel") (T := F_M) (N := 32) hx hb hT hin_M hown hK hP 0 rfl rfl 15 (by decide) (hT _ q_f_M_43) (fun _ h9 => h9) rfl d_M_choose_201 ?_
                refine lv_sipush (v := nI 6561) hx hb d_M_choose_204 (by decide) ?_
                refine lv_iload_n hx hb d_M_choose_207 rfl (lv_at hl 3 rfl) ?_
                refine lv_imul hx hb d_M_choose_208 ?_
                refine zz_top (y := nI (6561 * k9)) (pk_mul 6561 k9) ?_
                refine lv_iload_n hx hb d_M_choose_209 rfl (lv_at hl 4 rfl) ?_
                refine lv_iadd hx hb d_M_choose_210 ?_
                refine zz_top (y := nI (6561 * k9 + s9)) (nI_add (6561 * k9) s9) ?_
                refine lv_iload hx hb d_M_choose_211 (lv_at hl 9 rfl) ?_
                refine zz_iastN hx hb hK hP hD hS 4 0 rfl rfl (j := 6561 * k9 + s9) (by omega) (by omega) d_M_choose_213 (fun H locs hP hD hS => ?_)
                have hP : va_P D vwCl [(aM0, .inr (6, [.int (nI xth), .int (nI xw), .int (nI xn), .int (nI xk), .ref bmk, .ref bvl, .ref bln, .ref bfl, .ref bal, .ref bls, .ref bli, .ref bon, .ref bmn, .ref bbt, .ref bwo, .ref bto, .ref bun, .int (nI xnd), .ref bse, .ref bze, .ref bno, .ref bwa, .ref bpa, .int (nI xst), .ref bwd, .int (nI xh), .int (nI xb), .int (nI xt), .int (nI xta), .ref brw, .ref brf, .ref bra])), (bmn, .inl (cA, 6561, .inl (fun j => nI (fmn j)))), (bbt, .inl (cA, 19683, .inl (fun j => zz_o (fbt j)))), (bwo, .inl (cA, 19683, .inl (fun j => nI ((zz_up wo (6561 * k9 + s9) (1 + max (wo (6561 * k9 + (s9 - (2 - 0) * 3 ^ b))) (wo (6561 * k9 + (s9 - (2 - 1) * 3 ^ b))))) j)))), (bto, .inl (cA, 19683, .inl (fun j => nI ((zz_up to (6561 * k9 + s9) (fmn s9 + to (6561 * k9 + (s9 - (2 - 0) * 3 ^ b)) + to (6561 * k9 + (s9 - (2 - 1) * 3 ^ b)))) j)))), (bun, .inl (cA, 9, .inl (fun j => nI (zM_u j))))] H := hP
                have hD : va_D A [(aM0, .inr (6, [.int (nI xth), .int (nI xw), .int (nI xn), .int (nI xk), .ref bmk, .ref bvl, .ref bln, .ref bfl, .ref bal, .ref bls, .ref bli, .ref bon, .ref bmn, .ref bbt, .ref bwo, .ref bto, .ref bun, .int (nI xnd), .ref bse, .ref bze, .ref bno, .ref bwa, .ref bpa, .int (nI xst), .ref bwd, .int (nI xh), .int (nI xb), .int (nI xt), .int (nI xta), .ref brw, .ref brf, .ref bra])), (bmn, .inl (cA, 6561, .inl (fun j => nI (fmn j)))), (bbt, .inl (cA, 19683, .inl (fun j => zz_o (fbt j)))), (bwo, .inl (cA, 19683, .inl (fun j => nI ((zz_up wo (6561 * k9 + s9) (1 + max (wo (6561 * k9 + (s9 - (2 - 0) * 3 ^ b))) (wo (6561 * k9 + (s9 - (2 - 1) * 3 ^ b))))) j)))), (bto, .inl (cA, 19683, .inl (fun j => nI ((zz_up to (6561 * k9 + s9) (fmn s9 + to (6561 * k9 + (s9 - (2 - 0) * 3 ^ b)) + to (6561 * k9 + (s9 - (2 - 1) * 3 ^ b)))) j)))), (bun, .inl (cA, 9, .inl (fun j => nI (zM_u j))))] := hD
                refine lv_iinc (v := nI (b + 1)) (lv' := [(4, .int (nI (b + 1))), (3, .int (zz_o (b + 1))), (9, .int (nI (zz_b bt))), (0, .ref aM0), (1, .int (nI k9)), (2, .int (nI s9)), (5, .int (nI (6561 * k9 + (s9 - (2 - 0) * 3 ^ b)))), (6, .int (nI (6561 * k9 + (s9 - (2 - 1) * 3 ^ b)))), (7, .int (nI (1 + max (wo (6561 * k9 + (s9 - (2 - 0) * 3 ^ b))) (wo (6561 * k9 + (s9 - (2 - 1) * 3 ^ b)))))), (8, .int (nI (fmn s9 + to (6561 * k9 + (s9 - (2 - 0) * 3 ^ b)) + to (6561 * k9 + (s9 - (2 - 1) * 3 ^ b)))))]) hx hb d_M_choose_214 hl (k := 5) rfl (nI_add b 1) (by decide) rfl (fun ls hl => ?_)
                refine lv_goto (tgt := 5) hx hb d_M_choose_217 (by decide) ?_
                exact ih_lp (b + 1) (b + 1) (zz_up wo (6561 * k9 + s9) (1 + max (wo (6561 * k9 + (s9 - (2 - 0) * 3 ^ b))) (wo (6561 * k9 + (s9 - (2 - 1) * 3 ^ b))))) (zz_up to (6561 * k9 + s9) (fmn s9 + to (6561 * k9 + (s9 - (2 - 0) * 3 ^ b)) + to (6561 * k9 + (s9 - (2 - 1) * 3 ^ b)))) (by omega) (by omega) (fun j hj => by rw [zz_up_n hj]; exact hwe j hj) (fun j hj => by rw [zz_up_n hj]; exact hte j hj) (by rw [zz_up_s]; omega) (by rw [zz_up_s]; omega) (by rw [← hinv, zM_ch_s (b := b) (n := xw) (by omega), zM_ch1, if_pos c22, if_pos (by rw [← hbt]; exact c180)]) (by omega) H locs hP hD hS ls (lv_sub hl [3, 4, 5, 1, 0] rfl)
            refine lv_iload_n hx hb d_M_choose_119 rfl (lv_at hl 5 rfl) ?_
            refine lv_if_lt (tgt := 171) hx hb d_M_choose_120 (by decide) (fun c120 => ?_) (fun c120 => ?_)
            · rw [zz_o_neg (by omega)] at c120
              refine lv_iconst (v := nI 1) hx hb d_M_choose_171 (by decide) ?_
              refine lv_goto (tgt := 176) hx hb d_M_choose_172 (by decide) ?_
              exact jb true (zM_bt_t (by omega)) ls (lv_sub hl [2, 3, 4, 5, 6, 7, 8, 1, 0] rfl)
            · rw [zz_o_neg (by omega)] at c120
              refine lv_iload_n hx hb d_M_choose_123 rfl (lv_at hl 3 rfl) ?_
              refine lv_iconst (v := nI 2) hx hb d_M_choose_124 (by decide) ?_
              refine lv_icmp_eq (tgt := 171) hx hb d_M_choose_125 (by decide) (fun c125 => ?_) (fun c125 => ?_)
              · rw [zz_eq (by omega) (by omega)] at c125
                refine lv_iconst (v := nI 1) hx hb d_M_choose_171 (by decide) ?_
                refine lv_goto (tgt := 176) hx hb d_M_choose_172 (by decide) ?_
                exact jb true (zM_bt_t (by omega)) ls (lv_sub hl [2, 3, 4, 5, 6, 7, 8, 1, 0] rfl)
              · rw [zz_eq (by omega) (by omega)] at c125
                refine lv_iload_n hx hb d_M_choose_128 rfl (lv_at hl 3 rfl) ?_
                refine lv_if_ne (tgt := 149) hx hb d_M_choose_129 (by decide) (fun c129 => ?_) (fun c129 => ?_)
                · rw [zz_eq0 (by omega)] at c129
                  refine lv_iload_n hx hb d_M_choose_149 rfl (lv_at hl 3 rfl) ?_
                  refine lv_iconst (v := nI 1) hx hb d_M_choose_150 (by decide) ?_
                  refine lv_icmp_ne (tgt := 175) hx hb d_M_choose_151 (by decide) (fun c151 => ?_) (fun c151 => ?_)
                  · rw [zz_eq (by omega) (by omega)] at c151
                    refine lv_iconst (v := nI 0) hx hb d_M_choose_175 (by decide) ?_
                    exact jb false (zM_bt_f (by omega)) ls (lv_sub hl [2, 3, 4, 5, 6, 7, 8, 1, 0] rfl)
                  · rw [zz_eq (by omega) (by omega)] at c151
                    refine lv_iload hx hb d_M_choose_154 (lv_at hl 0 rfl) ?_
                    refine lv_aload_n hx hb d_M_choose_156 rfl (lv_at hl 2 rfl) ?_
                    refine va_get (D := D) (ci := 6) (v := .ref bto) (C := "DecodeTestsModel") (T := F_M) (N := 32) hx hb hT hin_M hown hK hP 0 rfl rfl 15 (by decide) (hT _ q_f_M_43) (fun _ h9 => h9) rfl d_M_choose_157 ?_
                    refine lv_sipush (v := nI 6561) hx hb d_M_choose_160 (by decide) ?_
                    refine lv_iload_n hx hb d_M_choose_163 rfl (lv_at hl 3 rfl) ?_
                    refine lv_imul hx hb d_M_choose_164 ?_
                    refine zz_top (y := nI (6561 * k9)) (pk_mul 6561 k9) ?_
                    refine lv_iload_n hx hb d_M_choose_165 rfl (lv_at hl 4 rfl) ?_
                    refine lv_iadd hx hb d_M_choose_166 ?_
                    refine zz_top (y := nI (6561 * k9 + s9)) (nI_add (6561 * k9) s9) ?_
                    refine zz_iald hx hb hK hP 4 0 rfl rfl (j := 6561 * k9 + s9) (by omega) (by omega) d_M_choose_167 ?_
                    refine zz_top (y := nI (to (6561 * k9 + s9))) rfl ?_
                    refine lv_icmp_ge (tgt := 175) hx hb d_M_choose_168 (by decide) (fun c168 => ?_) (fun c168 => ?_)
                    · rw [zz_le (by omega) (by omega)] at c168
                      refine lv_iconst (v := nI 0) hx hb d_M_choose_175 (by decide) ?_
                      exact jb false (zM_bt_f (by omega)) ls (lv_sub hl [2, 3, 4, 5, 6, 7, 8, 1, 0] rfl)
                    · rw [zz_le (by omega) (by omega)] at c168
                      refine lv_iconst (v := nI 1) hx hb d_M_choose_171 (by decide) ?_
                      refine lv_goto (tgt := 176) hx hb d_M_choose_172 (by decide) ?_
                      exact jb true (zM_bt_t (by omega)) ls (lv_sub hl [2, 3, 4, 5, 6, 7, 8, 1, 0] rfl)
                · rw [zz_eq0 (by omega)] at c129
                  refine lv_iload hx hb d_M_choose_132 (lv_at hl 1 rfl) ?_
                  refine lv_aload_n hx hb d_M_choose_134 rfl (lv_at hl 2 rfl) ?_
                  refine va_get (D := D) (ci := 6) (v := .ref bwo) (C := "DecodeTestsModel") (T := F_M) (N := 32) hx hb hT hin_M hown hK hP 0 rfl rfl 14 (by decide) (hT _ q_f_M_40) (fun _ h9 => h9) rfl d_M_choose_135 ?_
                  refine lv_sipush (v := nI 6561) hx hb d_M_choose_138 (by decide) ?_
                  refine lv_iload_n hx hb d_M_choose_141 rfl (lv_at hl 3 rfl) ?_
                  refine lv_imul hx hb d_M_choose_142 ?_
                  refine zz_top (y := nI (6561 * k9)) (pk_mul 6561 k9) ?_
                  refine lv_iload_n hx hb d_M_choose_143 rfl (lv_at hl 4 rfl) ?_
                  refine lv_iadd hx hb d_M_choose_144 ?_
                  refine zz_top (y := nI (6561 * k9 + s9)) (nI_add (6561 * k9) s9) ?_
                  refine zz_iald hx hb hK hP 3 0 rfl rfl (j := 6561 * k9 + s9) (by omega) (by omega) d_M_choose_145 ?_
                  refine zz_top (y := nI (wo (6561 * k9 + s9))) rfl ?_
                  refine lv_icmp_lt (tgt := 171) hx hb d_M_choose_146 (by decide) (fun c146 => ?_) (fun c146 => ?_)
                  · rw [zz_lt (by omega) (by omega)] at c146
                    refine lv_iconst (v := nI 1) hx hb d_M_choose_171 (by decide) ?_
                    refine lv_goto (tgt := 176) hx hb d_M_choose_172 (by decide) ?_
                    exact jb true (zM_bt_t (by omega)) ls (lv_sub hl [2, 3, 4, 5, 6, 7, 8, 1, 0] rfl)
                  · rw [zz_lt (by omega) (by omega)] at c146
                    refine lv_iload_n hx hb d_M_choose_149 rfl (lv_at hl 3 rfl) ?_
                    refine lv_iconst (v := nI 1) hx hb d_M_choose_150 (by decide) ?_
                    refine lv_icmp_ne (tgt := 175) hx hb d_M_choose_151 (by decide) (fun c151 => ?_) (fun c151 => ?_)
                    · rw [zz_eq (by omega) (by omega)] at c151
                      refine lv_iconst (v := nI 0) hx hb d_M_choose_175 (by decide) ?_
                      exact jb false (zM_bt_f (by omega)) ls (lv_sub hl [2, 3, 4, 5, 6, 7, 8, 1, 0] rfl)
                    · rw [zz_eq (by omega) (by omega)] at c151
                      refine lv_iload hx hb d_M_choose_154 (lv_at hl 0 rfl) ?_
                      refine lv_aload_n hx hb d_M_choose_156 rfl (lv_at hl 2 rfl) ?_
                      refine va_get (D := D) (ci := 6) (v := .ref bto) (C := "DecodeTestsModel") (T := F_M) (N := 32) hx hb hT hin_M hown hK hP 0 rfl rfl 15 (by decide) (hT _ q_f_M_43) (fun _ h9 => h9) rfl d_M_choose_157 ?_
                      refine lv_sipush (v := nI 6561) hx hb d_M_choose_160 (by decide) ?_
                      refine lv_iload_n hx hb d_M_choose_163 rfl (lv_at hl 3 rfl) ?_
                      refine lv_imul hx hb d_M_choose_164 ?_
                      refine zz_top (y := nI (6561 * k9)) (pk_mul 6561 k9) ?_
                      refine lv_iload_n hx hb d_M_choose_165 rfl (lv_at hl 4 rfl) ?_
                      refine lv_iadd hx hb d_M_choose_166 ?_
                      refine zz_top (y := nI (6561 * k9 + s9)) (nI_add (6561 * k9) s9) ?_
                      refine zz_iald hx hb hK hP 4 0 rfl rfl (j := 6561 * k9 + s9) (by omega) (by omega) d_M_choose_167 ?_
                      refine zz_top (y := nI (to (6561 * k9 + s9))) rfl ?_
                      refine lv_icmp_ge (tgt := 175) hx hb d_M_choose_168 (by decide) (fun c168 => ?_) (fun c168 => ?_)
                      · rw [zz_le (by omega) (by omega)] at c168
                        refine lv_iconst (v := nI 0) hx hb d_M_choose_175 (by decide) ?_
                        exact jb false (zM_bt_f (by omega)) ls (lv_sub hl [2, 3, 4, 5, 6, 7, 8, 1, 0] rfl)
                      · rw [zz_le (by omega) (by omega)] at c168
                        refine lv_iconst (v := nI 1) hx hb d_M_choose_171 (by decide) ?_
                        refine lv_goto (tgt := 176) hx hb d_M_choose_172 (by decide) ?_
                        exact jb true (zM_bt_t (by omega)) ls (lv_sub hl [2, 3, 4, 5, 6, 7, 8, 1, 0] rfl)
          refine lv_icmp_le (tgt := 85) hx hb d_M_choose_72 (by decide) (fun c72 => ?_) (fun c72 => ?_)
          · rw [zz_le (by omega) (by omega)] at c72
            refine lv_aload_n hx hb d_M_choose_85 rfl (lv_at hl 2 rfl) ?_
            refine va_get (D := D) (ci := 6) (v := .ref bwo) (C := "DecodeTestsModel") (T := F_M) (N := 32) hx hb hT hin_M hown hK hP 0 rfl rfl 14 (by decide) (hT _ q_f_M_40) (fun _ h9 => h9) rfl d_M_choose_86 ?_
            refine lv_iload hx hb d_M_choose_89 (lv_at hl 0 rfl) ?_
            refine zz_iald hx hb hK hP 3 0 rfl rfl (j := 6561 * k9 + (s9 - (2 - 1) * 3 ^ b)) (by omega) (by omega) d_M_choose_91 ?_
            refine zz_top (y := nI (wo (6561 * k9 + (s9 - (2 - 1) * 3 ^ b)))) rfl ?_
            exact jm (wo (6561 * k9 + (s9 - (2 - 1) * 3 ^ b))) (by rw [Nat.max_eq_right (by omega)]) ls (lv_sub hl [2, 3, 4, 5, 6, 1, 0] rfl)
          · rw [zz_le (by omega) (by omega)] at c72
            refine lv_aload_n hx hb d_M_choose_75 rfl (lv_at hl 2 rfl) ?_
            refine va_get (D := D) (ci := 6) (v := .ref bwo) (C := "DecodeTestsModel") (T := F_M) (N := 32) hx hb hT hin_M hown hK hP 0 rfl rfl 14 (by decide) (hT _ q_f_M_40) (fun _ h9 => h9) rfl d_M_choose_76 ?_
            refine lv_iload hx hb d_M_choose_79 (lv_at hl 1 rfl) ?_
            refine zz_iald hx hb hK hP 3 0 rfl rfl (j := 6561 * k9 + (s9 - (2 - 0) * 3 ^ b)) (by omega) (by omega) d_M_choose_81 ?_
            refine zz_top (y := nI (wo (6561 * k9 + (s9 - (2 - 0) * 3 ^ b)))) rfl ?_
            refine lv_goto (tgt := 92) hx hb d_M_choose_82 (by decide) ?_
            exact jm (wo (6561 * k9 + (s9 - (2 - 0) * 3 ^ b))) (by rw [Nat.max_eq_left (by omega)]) ls (lv_sub hl [2, 3, 4, 5, 6, 1, 0] rfl)
  exact lp (xw + 1) 0 0 fwo fto (by omega) (by omega) (fun _ _ => rfl) (fun _ _ => rfl) hws0 hts0 (by rw [Nat.sub_zero]) (Nat.lt_succ_self _) s.heap [] hP hD hS ls (lv_sub hl [2, 3, 4, 1, 0] rfl)
