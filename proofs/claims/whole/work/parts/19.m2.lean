set_option maxHeartbeats 4000000 in
set_option maxRecDepth 100000 in
theorem c_M_makeList (l : Launch) (D : va_G) (cA : ClassId) (aM0 : Nat) (xth : Nat) (xw : Nat) (xn : Nat) (xk : Nat) (xnd : Nat) (xst : Nat) (xh : Nat) (xb : Nat) (xt : Nat) (xta : Nat) (bmk : Nat) (bvl : Nat) (bln : Nat) (bfl : Nat) (bal : Nat) (bls : Nat) (bli : Nat) (bon : Nat) (bmn : Nat) (bbt : Nat) (bwo : Nat) (bto : Nat) (bun : Nat) (bse : Nat) (bze : Nat) (bno : Nat) (bwa : Nat) (bpa : Nat) (bwd : Nat) (brw : Nat) (brf : Nat) (bra : Nat) (fmk : Nat → Nat) (fvl : Nat → Nat) (ffl : Nat → Nat) (fls : Nat → Nat) (fli : Nat → Nat) (w : Nat) (sz : Nat) (hmk : ∀ j, fmk j < 256) (hvl : ∀ j, fvl j < 256) (hfl : ∀ j, ffl j ≤ 8) (hxn : xn ≤ 14) (hw : w < 256) (hlb0 : ∀ j, fli j < 14) : Met l y_M_makeList ws_M_makeList ({ frames := 1, cells := 0, slots := 0, locals := 22 }) (va_Pc [.ref aM0, .int (nI w)] (zz_preW D vwCl [(cA, .int)] [(aM0, .inr (6, [.int (nI xth), .int (nI xw), .int (nI xn), .int (nI xk), .ref bmk, .ref bvl, .ref bln, .ref bfl, .ref bal, .ref bls, .ref bli, .ref bon, .ref bmn, .ref bbt, .ref bwo, .ref bto, .ref bun, .int (nI xnd), .ref bse, .ref bze, .ref bno, .ref bwa, .ref bpa, .int (nI xst), .ref bwd, .int (nI xh), .int (nI xb), .int (nI xt), .int (nI xta), .ref brw, .ref brf, .ref bra])), (bmk, .inl (cA, 14, .inl (fun j => nI (fmk j)))), (bvl, .inl (cA, 14, .inl (fun j => nI (fvl j)))), (bfl, .inl (cA, 14, .inl (fun j => zz_o (ffl j)))), (bls, .inl (cA, 256, .inl (fun j => nI (fls j)))), (bli, .inl (cA, 3584, .inl (fun j => nI (fli j))))] sz zz_nx)) (va_Qv (fun _ : Unit => True) (fun _ => zz_post D vwCl [(cA, .int)] (va_A [(aM0, .inr (6, [.int (nI xth), .int (nI xw), .int (nI xn), .int (nI xk), .ref bmk, .ref bvl, .ref bln, .ref bfl, .ref bal, .ref bls, .ref bli, .ref bon, .ref bmn, .ref bbt, .ref bwo, .ref bto, .ref bun, .int (nI xnd), .ref bse, .ref bze, .ref bno, .ref bwa, .ref bpa, .int (nI xst), .ref bwd, .int (nI xh), .int (nI xb), .int (nI xt), .int (nI xta), .ref brw, .ref brf, .ref bra])), (bmk, .inl (cA, 14, .inl (fun j => nI (fmk j)))), (bvl, .inl (cA, 14, .inl (fun j => nI (fvl j)))), (bfl, .inl (cA, 14, .inl (fun j => zz_o (ffl j)))), (bls, .inl (cA, 256, .inl (fun j => nI (fls j)))), (bli, .inl (cA, 3584, .inl (fun j => nI (fli j))))] sz) [(aM0, .inr (6, [.int (nI xth), .int (nI xw), .int (nI xn), .int (nI xk), .ref bmk, .ref bvl, .ref bln, .ref bfl, .ref bal, .ref bls, .ref bli, .ref bon, .ref bmn, .ref bbt, .ref bwo, .ref bto, .ref bun, .int (nI xnd), .ref bse, .ref bze, .ref bno, .ref bwa, .ref bpa, .int (nI xst), .ref bwd, .int (nI xh), .int (nI xb), .int (nI xt), .int (nI xta), .ref brw, .ref brf, .ref bra])), (bmk, .inl (cA, 14, .inl (fun j => nI (fmk j)))), (bvl, .inl (cA, 14, .inl (fun j => nI (fvl j)))), (bfl, .inl (cA, 14, .inl (fun j => zz_o (ffl j)))), (bls, .inl (cA, 256, .inl (fun j => nI ((zz_up fls w (zM_ml fmk fvl ffl w 0 xn (fli, 0)).2) j)))), (bli, .inl (cA, 3584, .inl (fun j => nI (((zM_ml fmk fvl ffl w 0 xn (fli, 0)).1) j))))]) (va_A [(aM0, .inr (6, [.int (nI xth), .int (nI xw), .int (nI xn), .int (nI xk), .ref bmk, .ref bvl, .ref bln, .ref bfl, .ref bal, .ref bls, .ref bli, .ref bon, .ref bmn, .ref bbt, .ref bwo, .ref bto, .ref bun, .int (nI xnd), .ref bse, .ref bze, .ref bno, .ref bwa, .ref bpa, .int (nI xst), .ref bwd, .int (nI xh), .int (nI xb), .int (nI xt), .int (nI xta), .ref brw, .ref brf, .ref bra])), (bmk, .inl (cA, 14, .inl (fun j => nI (fmk j)))), (bvl, .inl (cA, 14, .inl (fun j => nI (fvl j)))), (bfl, .inl (cA, 14, .inl (fun j => zz_o (ffl j)))), (bls, .inl (cA, 256, .inl (fun j => nI (fls j)))), (bli, .inl (cA, 3584, .inl (fun j => nI (fli j))))] sz)) 0 0 (va_A [(aM0, .inr (6, [.int (nI xth), .int (nI xw), .int (nI xn), .int (nI xk), .ref bmk, .ref bvl, .ref bln, .ref bfl, .ref bal, .ref bls, .ref bli, .ref bon, .ref bmn, .ref bbt, .ref bwo, .ref bto, .ref bun, .int (nI xnd), .ref bse, .ref bze, .ref bno, .ref bwa, .ref bpa, .int (nI xst), .ref bwd, .int (nI xh), .int (nI xb), .int (nI xt), .int (nI xta), .ref brw, .ref brf, .ref bra])), (bmk, .inl (cA, 14, .inl (fun j => nI (fmk j)))), (bvl, .inl (cA, 14, .inl (fun j => nI (fvl j)))), (bfl, .inl (cA, 14, .inl (fun j => zz_o (ffl j)))), (bls, .inl (cA, 256, .inl (fun j => nI (fls j)))), (bli, .inl (cA, 3584, .inl (fun j => nI (fli j))))] sz) := by
  refine Met.ofW (cc := b_M_makeList) (maxL := 5) (ret := none) (by decide) rfl ?_
  intro p e s m args below meth c s₁ B hml hv
  obtain ⟨rfl, hsz, hP, hK, hD0, hX⟩ := hv
  have hx := B.exec
  have hb := B.bytes
  have hr := B.returns
  have hts := atoms_spec (ws := ws_M_makeList) B.pre
  have hown : s.vm.findClass "DecodeTestsModel" = some m.cls := findClass_of_methodNamed B.named
  have hlocks := B.notSynchronized
  have hT : ∀ w9 ∈ zz_T, w9.before ([.ref aM0, .int (nI w)] : List Value).toArray s = true := fun w9 h => hts w9 (List.mem_cons_of_mem _ h)
  subst hsz
  have hD := hD0.self (sz := s.heap.size)
  generalize hAe : va_A [(aM0, .inr (6, [.int (nI xth), .int (nI xw), .int (nI xn), .int (nI xk), .ref bmk, .ref bvl, .ref bln, .ref bfl, .ref bal, .ref bls, .ref bli, .ref bon, .ref bmn, .ref bbt, .ref bwo, .ref bto, .ref bun, .int (nI xnd), .ref bse, .ref bze, .ref bno, .ref bwa, .ref bpa, .int (nI xst), .ref bwd, .int (nI xh), .int (nI xb), .int (nI xt), .int (nI xta), .ref brw, .ref brf, .ref bra])), (bmk, .inl (cA, 14, .inl (fun j => nI (fmk j)))), (bvl, .inl (cA, 14, .inl (fun j => nI (fvl j)))), (bfl, .inl (cA, 14, .inl (fun j => zz_o (ffl j)))), (bls, .inl (cA, 256, .inl (fun j => nI (fls j)))), (bli, .inl (cA, 3584, .inl (fun j => nI (fli j))))] s.heap.size = A at hD hX ⊢
  have hA : ∀ q : Nat, s.heap.size ≤ q → A q := fun q h => by rw [← hAe]; exact Or.inr h
  have hS : va_S A s.heap s.heap [] := va_S.rf
  have hl := lv_entry ([.ref aM0, .int (nI w)]) (n := 5) (Nat.le_of_ble_eq_true rfl)
  rw [lg_entry_eq]
  generalize (lg_sl ([.ref aM0, .int (nI w)]) ++ List.replicate (5 - (lg_sl ([.ref aM0, .int (nI w)])).length) Slot.unset).toArray = ls at hl ⊢
  have hl : lv_has ls 5 [(0, .ref aM0), (1, .int (nI w))] := hl
  refine lv_iconst (v := nI 0) hx hb d_M_makeList_0 (by decide) ?_
  refine lv_istore_n (lv' := [(2, .int (nI 0)), (0, .ref aM0), (1, .int (nI w))]) hx hb d_M_makeList_1 rfl hl (by decide) rfl (fun ls hl => ?_)
  refine lv_iconst (v := nI 1) hx hb d_M_makeList_2 (by decide) ?_
  refine zz_top (y := nI (zz_b true)) (rfl) ?_
  refine lv_istore_n (lv' := [(3, .int (nI (zz_b true))), (2, .int (nI 0)), (0, .ref aM0), (1, .int (nI w))]) hx hb d_M_makeList_3 rfl hl (by decide) rfl (fun ls hl => ?_)
  refine lv_iconst (v := nI 0) hx hb d_M_makeList_4 (by decide) ?_
  refine lv_istore (lv' := [(4, .int (nI 0)), (3, .int (nI (zz_b true))), (2, .int (nI 0)), (0, .ref aM0), (1, .int (nI w))]) hx hb d_M_makeList_5 hl (by decide) rfl (fun ls hl => ?_)
  have lp : ∀ (fu : Nat) (e9 : Nat) (nn : Nat) (li : Nat → Nat) (mo : Bool), (e9 ≤ xn) → (nn ≤ e9) → (∀ j, li j < 14) → (mo = true → zM_ml fmk fvl ffl w e9 (xn - e9) (li, nn) = zM_ml fmk fvl ffl w 0 xn (fli, 0)) → (mo = false → (li, nn) = zM_ml fmk fvl ffl w 0 xn (fli, 0)) → xn - e9 < fu → ∀ (H : Heap) (locs : List Loc), va_P D vwCl [(aM0, .inr (6, [.int (nI xth), .int (nI xw), .int (nI xn), .int (nI xk), .ref bmk, .ref bvl, .ref bln, .ref bfl, .ref bal, .ref bls, .ref bli, .ref bon, .ref bmn, .ref bbt, .ref bwo, .ref bto, .ref bun, .int (nI xnd), .ref bse, .ref bze, .ref bno, .ref bwa, .ref bpa, .int (nI xst), .ref bwd, .int (nI xh), .int (nI xb), .int (nI xt), .int (nI xta), .ref brw, .ref brf, .ref bra])), (bmk, .inl (cA, 14, .inl (fun j => nI (fmk j)))), (bvl, .inl (cA, 14, .inl (fun j => nI (fvl j)))), (bfl, .inl (cA, 14, .inl (fun j => zz_o (ffl j)))), (bls, .inl (cA, 256, .inl (fun j => nI (fls j)))), (bli, .inl (cA, 3584, .inl (fun j => nI (li j))))] H → va_D A [(aM0, .inr (6, [.int (nI xth), .int (nI xw), .int (nI xn), .int (nI xk), .ref bmk, .ref bvl, .ref bln, .ref bfl, .ref bal, .ref bls, .ref bli, .ref bon, .ref bmn, .ref bbt, .ref bwo, .ref bto, .ref bun, .int (nI xnd), .ref bse, .ref bze, .ref bno, .ref bwa, .ref bpa, .int (nI xst), .ref bwd, .int (nI xh), .int (nI xb), .int (nI xt), .int (nI xta), .ref brw, .ref brf, .ref bra])), (bmk, .inl (cA, 14, .inl (fun j => nI (fmk j)))), (bvl, .inl (cA, 14, .inl (fun j => nI (fvl j)))), (bfl, .inl (cA, 14, .inl (fun j => zz_o (ffl j)))), (bls, .inl (cA, 256, .inl (fun j => nI (fls j)))), (bli, .inl (cA, 3584, .inl (fun j => nI (li j))))] → va_S A s.heap H locs → ∀ (ls : Array Slot), lv_has ls 5 [(0, .ref aM0), (1, .int (nI w)), (2, .int (nI nn)), (3, .int (nI (zz_b mo))), (4, .int (nI e9))] → W p l e (headSpec ws_M_makeList ({ frames := 1, cells := 0, slots := 0, locals := 22 })).room s m ([.ref aM0, .int (nI w)] : List Value).toArray below meth c H locs 0 0 (MQ below (va_Qv (fun _ : Unit => True) (fun _ => zz_post D vwCl [(cA, .int)] A [(aM0, .inr (6, [.int (nI xth), .int (nI xw), .int (nI xn), .int (nI xk), .ref bmk, .ref bvl, .ref bln, .ref bfl, .ref bal, .ref bls, .ref bli, .ref bon, .ref bmn, .ref bbt, .ref bwo, .ref bto, .ref bun, .int (nI xnd), .ref bse, .ref bze, .ref bno, .ref bwa, .ref bpa, .int (nI xst), .ref bwd, .int (nI xh), .int (nI xb), .int (nI xt), .int (nI xta), .ref brw, .ref brf, .ref bra])), (bmk, .inl (cA, 14, .inl (fun j => nI (fmk j)))), (bvl, .inl (cA, 14, .inl (fun j => nI (fvl j)))), (bfl, .inl (cA, 14, .inl (fun j => zz_o (ffl j)))), (bls, .inl (cA, 256, .inl (fun j => nI ((zz_up fls w (zM_ml fmk fvl ffl w 0 xn (fli, 0)).2) j)))), (bli, .inl (cA, 3584, .inl (fun j => nI (((zM_ml fmk fvl ffl w 0 xn (fli, 0)).1) j))))]) A) ([.ref aM0, .int (nI w)] : List Value).toArray s 0 0 A) (F0 m 7 ls []) := by
    intro fu
    induction fu with
    | zero => intro e9 nn li mo hi hnn hlb hm hm2 hmu; exact absurd hmu (Nat.not_lt_zero _)
    | succ fu ih_lp =>
      intro e9 nn li mo hi hnn hlb hm hm2 hmu H locs hP hD hS ls hl
      refine lv_iload hx hb d_M_makeList_7 (lv_at hl 4 rfl) ?_
      refine lv_aload_n hx hb d_M_makeList_9 rfl (lv_at hl 0 rfl) ?_
      refine va_get (D := D) (ci := 6) (v := .int (nI xn)) (C := "DecodeTestsModel") (T := F_M) (N := 32) hx hb hT hin_M hown hK hP 0 rfl rfl 2 (by decide) (hT _ q_f_M_90) (fun _ h9 => h9) rfl d_M_makeList_10 ?_
      refine lv_icmp_ge (tgt := 68) hx hb d_M_makeList_13 (by decide) (fun c13 => ?_) (fun c13 => ?_)
      · rw [zz_le (by omega) (by omega)] at c13
        have hR : (li, nn) = zM_ml fmk fvl ffl w 0 xn (fli, 0) := by
          cases mo with
          | false => exact hm2 rfl
          | true => first | (rw [← hm rfl, zM_ml_e (by omega)]) | (exact absurd c17 (by decide))
        refine lv_aload_n hx hb d_M_makeList_68 rfl (lv_at hl 0 rfl) ?_
        refine va_get (D := D) (ci := 6) (v := .ref bls) (C := "DecodeTestsModel") (T := F_M) (N := 32) hx hb hT hin_M hown hK hP 0 rfl rfl 9 (by decide) (hT _ q_f_M_25) (fun _ h9 => h9) rfl d_M_makeList_69 ?_
        refine lv_iload_n hx hb d_M_makeList_72 rfl (lv_at hl 1 rfl) ?_
        refine lv_iload_n hx hb d_M_makeList_73 rfl (lv_at hl 2 rfl) ?_
        refine zz_iastN hx hb hK hP hD hS 4 0 rfl rfl (j := w) (by omega) (by omega) d_M_makeList_74 (fun H locs hP hD hS => ?_)
        have hP : va_P D vwCl [(aM0, .inr (6, [.int (nI xth), .int (nI xw), .int (nI xn), .int (nI xk), .ref bmk, .ref bvl, .ref bln, .ref bfl, .ref bal, .ref bls, .ref bli, .ref bon, .ref bmn, .ref bbt, .ref bwo, .ref bto, .ref bun, .int (nI xnd), .ref bse, .ref bze, .ref bno, .ref bwa, .ref bpa, .int (nI xst), .ref bwd, .int (nI xh), .int (nI xb), .int (nI xt), .int (nI xta), .ref brw, .ref brf, .ref bra])), (bmk, .inl (cA, 14, .inl (fun j => nI (fmk j)))), (bvl, .inl (cA, 14, .inl (fun j => nI (fvl j)))), (bfl, .inl (cA, 14, .inl (fun j => zz_o (ffl j)))), (bls, .inl (cA, 256, .inl (fun j => nI ((zz_up fls w nn) j)))), (bli, .inl (cA, 3584, .inl (fun j => nI (li j))))] H := hP
        have hD : va_D A [(aM0, .inr (6, [.int (nI xth), .int (nI xw), .int (nI xn), .int (nI xk), .ref bmk, .ref bvl, .ref bln, .ref bfl, .ref bal, .ref bls, .ref bli, .ref bon, .ref bmn, .ref bbt, .ref bwo, .ref bto, .ref bun, .int (nI xnd), .ref bse, .ref bze, .ref bno, .ref bwa, .ref bpa, .int (nI xst), .ref bwd, .int (nI xh), .int (nI xb), .int (nI xt), .int (nI xta), .ref brw, .ref brf, .ref bra])), (bmk, .inl (cA, 14, .inl (fun j => nI (fmk j)))), (bvl, .inl (cA, 14, .inl (fun j => nI (fvl j)))), (bfl, .inl (cA, 14, .inl (fun j => zz_o (ffl j)))), (bls, .inl (cA, 256, .inl (fun j => nI ((zz_up fls w nn) j)))), (bli, .inl (cA, 3584, .inl (fun j => nI (li j))))] := hD
        have hP : va_P D vwCl [(aM0, .inr (6, [.int (nI xth), .int (nI xw), .int (nI xn), .int (nI xk), .ref bmk, .ref bvl, .ref bln, .ref bfl, .ref bal, .ref bls, .ref bli, .ref bon, .ref bmn, .ref bbt, .ref bwo, .ref bto, .ref bun, .int (nI xnd), .ref bse, .ref bze, .ref bno, .ref bwa, .ref bpa, .int (nI xst), .ref bwd, .int (nI xh), .int (nI xb), .int (nI xt), .int (nI xta), .ref brw, .ref brf, .ref bra])), (bmk, .inl (cA, 14, .inl (fun j => nI (fmk j)))), (bvl, .inl (cA, 14, .inl (fun j => nI (fvl j)))), (bfl, .inl (cA, 14, .inl (fun j => zz_o (ffl j)))), (bls, .inl (cA, 256, .inl (fun j => nI ((zz_up fls w (zM_ml fmk fvl ffl w 0 xn (fli, 0)).2) j)))), (bli, .inl (cA, 3584, .inl (fun j => nI (((zM_ml fmk fvl ffl w 0 xn (fli, 0)).1) j))))] H := by rw [← hR]; exact hP
        have hD : va_D A [(aM0, .inr (6, [.int (nI xth), .int (nI xw), .int (nI xn), .int (nI xk), .ref bmk, .ref bvl, .ref bln, .ref bfl, .ref bal, .ref bls, .ref bli, .ref bon, .ref bmn, .ref bbt, .ref bwo, .ref bto, .ref bun, .int (nI xnd), .ref bse, .ref bze, .ref bno, .ref bwa, .ref bpa, .int (nI xst), .ref bwd, .int (nI xh), .int (nI xb), .int (nI xt), .int (nI xta), .ref brw, .ref brf, .ref bra])), (bmk, .inl (cA, 14, .inl (fun j => nI (fmk j)))), (bvl, .inl (cA, 14, .inl (fun j => nI (fvl j)))), (bfl, .inl (cA, 14, .inl (fun j => zz_o (ffl j)))), (bls, .inl (cA, 256, .inl (fun j => nI ((zz_up fls w (zM_ml fmk fvl ffl w 0 xn (fli, 0)).2) j)))), (bli, .inl (cA, 3584, .inl (fun j => nI (((zM_ml fmk fvl ffl w 0 xn (fli, 0)).1) j))))] := by rw [← hR]; exact hD
        exact W.vret hx hb hr (fun t ht hW => ⟨⟨(), rfl, trivial, by rw [ht]; exact hP, va_K.moved hW.alike hK, hD⟩, hS.F ht⟩) hS.2.2 d_M_makeList_75
      · rw [zz_le (by omega) (by omega)] at c13
        refine lv_iload_n hx hb d_M_makeList_16 rfl (lv_at hl 3 rfl) ?_
        refine lv_if_eq (tgt := 68) hx hb d_M_makeList_17 (by decide) (fun c17 => ?_) (fun c17 => ?_)
        · rw [zz_b0] at c17
          have hR : (li, nn) = zM_ml fmk fvl ffl w 0 xn (fli, 0) := by
            cases mo with
            | false => exact hm2 rfl
            | true => first | (rw [← hm rfl, zM_ml_e (by omega)]) | (exact absurd c17 (by decide))
          refine lv_aload_n hx hb d_M_makeList_68 rfl (lv_at hl 0 rfl) ?_
          refine va_get (D := D) (ci := 6) (v := .ref bls) (C := "DecodeTestsModel") (T := F_M) (N := 32) hx hb hT hin_M hown hK hP 0 rfl rfl 9 (by decide) (hT _ q_f_M_25) (fun _ h9 => h9) rfl d_M_makeList_69 ?_
          refine lv_iload_n hx hb d_M_makeList_72 rfl (lv_at hl 1 rfl) ?_
          refine lv_iload_n hx hb d_M_makeList_73 rfl (lv_at hl 2 rfl) ?_
          refine zz_iastN hx hb hK hP hD hS 4 0 rfl rfl (j := w) (by omega) (by omega) d_M_makeList_74 (fun H locs hP hD hS => ?_)
          have hP : va_P D vwCl [(aM0, .inr (6, [.int (nI xth), .int (nI xw), .int (nI xn), .int (nI xk), .ref bmk, .ref bvl, .ref bln, .ref bfl, .ref bal, .ref bls, .ref bli, .ref bon, .ref bmn, .ref bbt, .ref bwo, .ref bto, .ref bun, .int (nI xnd), .ref bse, .ref bze, .ref bno, .ref bwa, .ref bpa, .int (nI xst), .ref bwd, .int (nI xh), .int (nI xb), .int (nI xt), .int (nI xta), .ref brw, .ref brf, .ref bra])), (bmk, .inl (cA, 14, .inl (fun j => nI (fmk j)))), (bvl, .inl (cA, 14, .inl (fun j => nI (fvl j)))), (bfl, .inl (cA, 14, .inl (fun j => zz_o (ffl j)))), (bls, .inl (cA, 256, .inl (fun j => nI ((zz_up fls w nn) j)))), (bli, .inl (cA, 3584, .inl (fun j => nI (li j))))] H := hP
          have hD : va_D A [(aM0, .inr (6, [.int (nI xth), .int (nI xw), .int (nI xn), .int (nI xk), .ref bmk, .ref bvl, .ref bln, .ref bfl, .ref bal, .ref bls, .ref bli, .ref bon, .ref bmn, .ref bbt, .ref bwo, .ref bto, .ref bun, .int (nI xnd), .ref bse, .ref bze, .ref bno, .ref bwa, .ref bpa, .int (nI xst), .ref bwd, .int (nI xh), .int (nI xb), .int (nI xt), .int (nI xta), .ref brw, .ref brf, .ref bra])), (bmk, .inl (cA, 14, .inl (fun j => nI (fmk j)))), (bvl, .inl (cA, 14, .inl (fun j => nI (fvl j)))), (bfl, .inl (cA, 14, .inl (fun j => zz_o (ffl j)))), (bls, .inl (cA, 256, .inl (fun j => nI ((zz_up fls w nn) j)))), (bli, .inl (cA, 3584, .inl (fun j => nI (li j))))] := hD
          have hP : va_P D vwCl [(aM0, .inr (6, [.int (nI xth), .int (nI xw), .int (nI xn), .int (nI xk), .ref bmk, .ref bvl, .ref bln, .ref bfl, .ref bal, .ref bls, .ref bli, .ref bon, .ref bmn, .ref bbt, .ref bwo, .ref bto, .ref bun, .int (nI xnd), .ref bse, .ref bze, .ref bno, .ref bwa, .ref bpa, .int (nI xst), .ref bwd, .int (nI xh), .int (nI xb), .int (nI xt), .int (nI xta), .ref brw, .ref brf, .ref bra])), (bmk, .inl (cA, 14, .inl (fun j => nI (fmk j)))), (bvl, .inl (cA, 14, .inl (fun j => nI (fvl j)))), (bfl, .inl (cA, 14, .inl (fun j => zz_o (ffl j)))), (bls, .inl (cA, 256, .inl (fun j => nI ((zz_up fls w (zM_ml fmk fvl ffl w 0 xn (fli, 0)).2) j)))), (bli, .inl (cA, 3584, .inl (fun j => nI (((zM_ml fmk fvl ffl w 0 xn (fli, 0)).1) j))))] H := by rw [← hR]; exact hP
          have hD : va_D A [(aM0, .inr (6, [.int (nI xth), .int (nI xw), .int (nI xn), .int (nI xk), .ref bmk, .ref bvl, .ref bln, .ref bfl, .ref bal, .ref bls, .ref bli, .ref bon, .ref bmn, .ref bbt, .ref bwo, .ref bto, .ref bun, .int (nI xnd), .ref bse, .ref bze, .ref bno, .ref bwa, .ref bpa, .int (nI xst), .ref bwd, .int (nI xh), .int (nI xb), .int (nI xt), .int (nI xta), .ref brw, .ref brf, .ref bra])), (bmk, .inl (cA, 14, .inl (fun j => nI (fmk j)))), (bvl, .inl (cA, 14, .inl (fun j => nI (fvl j)))), (bfl, .inl (cA, 14, .inl (fun j => zz_o (ffl j)))), (bls, .inl (cA, 256, .inl (fun j => nI ((zz_up fls w (zM_ml fmk fvl ffl w 0 xn (fli, 0)).2) j)))), (bli, .inl (cA, 3584, .inl (fun j => nI (((zM_ml fmk fvl ffl w 0 xn (fli, 0)).1) j))))] := by rw [← hR]; exact hD
          exact W.vret hx hb hr (fun t ht hW => ⟨⟨(), rfl, trivial, by rw [ht]; exact hP, va_K.moved hW.alike hK, hD⟩, hS.F ht⟩) hS.2.2 d_M_makeList_75
        · rw [zz_bn0] at c17
          refine lv_aload_n hx hb d_M_makeList_20 rfl (lv_at hl 0 rfl) ?_
          refine lv_iload_n hx hb d_M_makeList_21 rfl (lv_at hl 1 rfl) ?_
          refine lv_iload hx hb d_M_makeList_22 (lv_at hl 4 rfl) ?_
          refine zz_rV (As := [.int (nI w), .int (nI e9)]) (rest := []) (r := nI (zz_b (zE_fit fmk fvl w e9))) ⟨hx, hb, hml, hown, hts⟩ (c_M_fits l _ _ aM0 xth xw xn xk xnd xst xh xb xt xta bmk bvl bln bfl bal bls bli bon bmn bbt bwo bto bun bse bze bno bwa bpa bwd brw brf bra fmk fvl w e9 (hmk) (hvl) (by omega) (by omega)) (cwV 2 hts g_M_makeList_93 rfl rfl rfl k_M_fits ⟨show 0 + 1 ≤ 1 by omega, show 8 + (3 + 11) + 0 ≤ 22 by omega⟩) (zz_blind_nx) hK (hP.sub (ws' := [(aM0, .inr (6, [.int (nI xth), .int (nI xw), .int (nI xn), .int (nI xk), .ref bmk, .ref bvl, .ref bln, .ref bfl, .ref bal, .ref bls, .ref bli, .ref bon, .ref bmn, .ref bbt, .ref bwo, .ref bto, .ref bun, .int (nI xnd), .ref bse, .ref bze, .ref bno, .ref bwa, .ref bpa, .int (nI xst), .ref bwd, .int (nI xh), .int (nI xb), .int (nI xt), .int (nI xta), .ref brw, .ref brf, .ref bra])), (bmk, .inl (cA, 14, .inl (fun j => nI (fmk j)))), (bvl, .inl (cA, 14, .inl (fun j => nI (fvl j))))]) [0, 1, 2] rfl) (fun _ _ _ => trivial) 6 0 rfl rfl rfl hl.1 rfl (Nat.le_of_ble_eq_true rfl) d_M_makeList_24 ⟨Nat.zero_le _, Nat.zero_le _⟩ ?_
          refine lv_if_eq (tgt := 62) hx hb d_M_makeList_27 (by decide) (fun c27 => ?_) (fun c27 => ?_)
          · rw [zz_b0] at c27
            refine lv_iinc (v := nI (e9 + 1)) (lv' := [(4, .int (nI (e9 + 1))), (0, .ref aM0), (1, .int (nI w)), (2, .int (nI nn)), (3, .int (nI (zz_b mo)))]) hx hb d_M_makeList_62 hl (k := 4) rfl (nI_add e9 1) (by decide) rfl (fun ls hl => ?_)
            refine lv_goto (tgt := 7) hx hb d_M_makeList_65 (by decide) ?_
            exact ih_lp (e9 + 1) nn li mo (by omega) (by omega) hlb (fun _ => by rw [← hm c17, zM_ml_no (e := e9) (n := xn) (by omega) c27]) (fun q => by rw [q] at c17; exact absurd c17 (by decide)) (by omega) H locs hP hD hS ls (lv_sub hl [1, 2, 3, 4, 0] rfl)
          · rw [zz_bn0] at c27
            refine lv_aload_n hx hb d_M_makeList_30 rfl (lv_at hl 0 rfl) ?_
            refine va_get (D := D) (ci := 6) (v := .ref bli) (C := "DecodeTestsModel") (T := F_M) (N := 32) hx hb hT hin_M hown hK hP 0 rfl rfl 10 (by decide) (hT _ q_f_M_28) (fun _ h9 => h9) rfl d_M_makeList_31 ?_
            refine lv_bipush (v := nI 14) hx hb d_M_makeList_34 (by decide) ?_
            refine lv_iload_n hx hb d_M_makeList_36 rfl (lv_at hl 1 rfl) ?_
            refine lv_imul hx hb d_M_makeList_37 ?_
            refine zz_top (y := nI (14 * w)) (pk_mul 14 w) ?_
            refine lv_iload_n hx hb d_M_makeList_38 rfl (lv_at hl 2 rfl) ?_
            refine lv_iadd hx hb d_M_makeList_39 ?_
            refine zz_top (y := nI (14 * w + nn)) (nI_add (14 * w) nn) ?_
            refine lv_iload hx hb d_M_makeList_40 (lv_at hl 4 rfl) ?_
            refine zz_iastN hx hb hK hP hD hS 5 0 rfl rfl (j := 14 * w + nn) (by omega) (by omega) d_M_makeList_42 (fun H locs hP hD hS => ?_)
            have hP : va_P D vwCl [(aM0, .inr (6, [.int (nI xth), .int (nI xw), .int (nI xn), .int (nI xk), .ref bmk, .ref bvl, .ref bln, .ref bfl, .ref bal, .ref bls, .ref bli, .ref bon, .ref bmn, .ref bbt, .ref bwo, .ref bto, .ref bun, .int (nI xnd), .ref bse, .ref bze, .ref bno, .ref bwa, .ref bpa, .int (nI xst), .ref bwd, .int (nI xh), .int (nI xb), .int (nI xt), .int (nI xta), .ref brw, .ref brf, .ref bra])), (bmk, .inl (cA, 14, .inl (fun j => nI (fmk j)))), (bvl, .inl (cA, 14, .inl (fun j => nI (fvl j)))), (bfl, .inl (cA, 14, .inl (fun j => zz_o (ffl j)))), (bls, .inl (cA, 256, .inl (fun j => nI (fls j)))), (bli, .inl (cA, 3584, .inl (fun j => nI ((zz_up li (14 * w + nn) e9) j))))] H := hP
            have hD : va_D A [(aM0, .inr (6, [.int (nI xth), .int (nI xw), .int (nI xn), .int (nI xk), .ref bmk, .ref bvl, .ref bln, .ref bfl, .ref bal, .ref bls, .ref bli, .ref bon, .ref bmn, .ref bbt, .ref bwo, .ref bto, .ref bun, .int (nI xnd), .ref bse, .ref bze, .ref bno, .ref bwa, .ref bpa, .int (nI xst), .ref bwd, .int (nI xh), .int (nI xb), .int (nI xt), .int (nI xta), .ref brw, .ref brf, .ref bra])), (bmk, .inl (cA, 14, .inl (fun j => nI (fmk j)))), (bvl, .inl (cA, 14, .inl (fun j => nI (fvl j)))), (bfl, .inl (cA, 14, .inl (fun j => zz_o (ffl j)))), (bls, .inl (cA, 256, .inl (fun j => nI (fls j)))), (bli, .inl (cA, 3584, .inl (fun j => nI ((zz_up li (14 * w + nn) e9) j))))] := hD
            refine lv_iinc (v := nI (nn + 1)) (lv' := [(2, .int (nI (nn + 1))), (0, .ref aM0), (1, .int (nI w)), (3, .int (nI (zz_b mo))), (4, .int (nI e9))]) hx hb d_M_makeList_43 hl (k := 2) rfl (nI_add nn 1) (by decide) rfl (fun ls hl => ?_)
            refine lv_aload_n hx hb d_M_makeList_46 rfl (lv_at hl 1 rfl) ?_
            refine va_get (D := D) (ci := 6) (v := .ref bfl) (C := "DecodeTestsModel") (T := F_M) (N := 32) hx hb hT hin_M hown hK hP 0 rfl rfl 7 (by decide) (hT _ q_f_M_19) (fun _ h9 => h9) rfl d_M_makeList_47 ?_
            refine lv_iload hx hb d_M_makeList_50 (lv_at hl 4 rfl) ?_
            refine zz_iald hx hb hK hP 3 0 rfl rfl (j := e9) (by omega) (by omega) d_M_makeList_52 ?_
            refine zz_top (y := zz_o (ffl e9)) rfl ?_
            refine lv_if_lt (tgt := 60) hx hb d_M_makeList_53 (by decide) (fun c53 => ?_) (fun c53 => ?_)
            · rw [zz_o_neg (by have := hfl e9; omega)] at c53
              refine lv_iconst (v := nI 0) hx hb d_M_makeList_60 (by decide) ?_
              refine zz_top (y := nI (zz_b false)) (rfl) ?_
              refine lv_istore_n (lv' := [(3, .int (nI (zz_b false))), (2, .int (nI (nn + 1))), (0, .ref aM0), (1, .int (nI w)), (4, .int (nI e9))]) hx hb d_M_makeList_61 rfl hl (by decide) rfl (fun ls hl => ?_)
              refine lv_iinc (v := nI (e9 + 1)) (lv' := [(4, .int (nI (e9 + 1))), (3, .int (nI (zz_b false))), (2, .int (nI (nn + 1))), (0, .ref aM0), (1, .int (nI w))]) hx hb d_M_makeList_62 hl (k := 4) rfl (nI_add e9 1) (by decide) rfl (fun ls hl => ?_)
              refine lv_goto (tgt := 7) hx hb d_M_makeList_65 (by decide) ?_
              exact ih_lp (e9 + 1) (nn + 1) (zz_up li (14 * w + nn) e9) false (by omega) (by omega) (zz_up_lt hlb (by omega)) (fun q => absurd q (by decide)) (fun _ => by rw [← hm c17, zM_ml_st (e := e9) (n := xn) (by omega) c27 c53]) (by omega) H locs hP hD hS ls (lv_sub hl [3, 4, 2, 1, 0] rfl)
            · rw [zz_o_neg (by have := hfl e9; omega)] at c53
              refine lv_iconst (v := nI 1) hx hb d_M_makeList_56 (by decide) ?_
              refine lv_goto (tgt := 61) hx hb d_M_makeList_57 (by decide) ?_
              refine zz_top (y := nI (zz_b true)) (rfl) ?_
              refine lv_istore_n (lv' := [(3, .int (nI (zz_b true))), (2, .int (nI (nn + 1))), (0, .ref aM0), (1, .int (nI w)), (4, .int (nI e9))]) hx hb d_M_makeList_61 rfl hl (by decide) rfl (fun ls hl => ?_)
              refine lv_iinc (v := nI (e9 + 1)) (lv' := [(4, .int (nI (e9 + 1))), (3, .int (nI (zz_b true))), (2, .int (nI (nn + 1))), (0, .ref aM0), (1, .int (nI w))]) hx hb d_M_makeList_62 hl (k := 4) rfl (nI_add e9 1) (by decide) rfl (fun ls hl => ?_)
              refine lv_goto (tgt := 7) hx hb d_M_makeList_65 (by decide) ?_
              exact ih_lp (e9 + 1) (nn + 1) (zz_up li (14 * w + nn) e9) true (by omega) (by omega) (zz_up_lt hlb (by omega)) (fun _ => by rw [← hm c17, zM_ml_on (e := e9) (n := xn) (by omega) c27 c53]) (fun q => absurd q (by decide)) (by omega) H locs hP hD hS ls (lv_sub hl [3, 4, 2, 1, 0] rfl)
  exact lp (xn + 1) 0 0 fli true (by omega) (by omega) hlb0 (fun _ => by rw [Nat.sub_zero]) (fun q => absurd q (by decide)) (Nat.lt_succ_self _) s.heap [] hP hD hS ls (lv_sub hl [3, 4, 2, 1, 0] rfl)

set_option maxHeartbeats 4000000 in
set_option maxRecDepth 100000 in
theorem c_M_isSameList (l : Launch) (D : va_G) (cA : ClassId) (aM0 : Nat) (xth : Nat) (xw : Nat) (xn : Nat) (xk : Nat) (xnd : Nat) (xst : Nat) (xh : Nat) (xb : Nat) (xt : Nat) (xta : Nat) (bmk : Nat) (bvl : Nat) (bln : Nat) (bfl : Nat) (bal : Nat) (bls : Nat) (bli : Nat) (bon : Nat) (bmn : Nat) (bbt : Nat) (bwo : Nat) (bto : Nat) (bun : Nat) (bse : Nat) (bze : Nat) (bno : Nat) (bwa : Nat) (bpa : Nat) (bwd : Nat) (brw : Nat) (brf : Nat) (bra : Nat) (fls : Nat → Nat) (fli : Nat → Nat) (v : Nat) (w : Nat) (hli : ∀ j, fli j < 14) (hls : ∀ j, fls j ≤ 14) (hv : v < 256) (hw : w < 256) : Met l y_M_isSameList ws_M_isSameList ({ frames := 0, cells := 0, slots := 0, locals := 0 }) (va_Pc [.ref aM0, .int (nI v), .int (nI w)] (zz_pre D vwCl [(cA, .int)] [(aM0, .inr (6, [.int (nI xth), .int (nI xw), .int (nI xn), .int (nI xk), .ref bmk, .ref bvl, .ref bln, .ref bfl, .ref bal, .ref bls, .ref bli, .ref bon, .ref bmn, .ref bbt, .ref bwo, .ref bto, .ref bun, .int (nI xnd), .ref bse, .ref bze, .ref bno, .ref bwa, .ref bpa, .int (nI xst), .ref bwd, .int (nI xh), .int (nI xb), .int (nI xt), .int (nI xta), .ref brw, .ref brf, .ref bra])), (bls, .inl (cA, 256, .inl (fun j => nI (fls j)))), (bli, .inl (cA, 3584, .inl (fun j => nI (fli j))))] zz_nx)) (QcRead (nI (zz_b (zM_same fli fls v w)))) 0 0 (fun _ => False) := by
  refine Met.ofW (cc := b_M_isSameList) (maxL := 5) (ret := (some .boolean)) (by decide) rfl ?_
  intro p e s m args below meth c s₁ B hml hv
  obtain ⟨rfl, hP, hK, hX⟩ := hv
  have hS : va_S (fun _ => False) s.heap s.heap [] := va_S.rf
  have hx := B.exec
  have hb := B.bytes
  have hr := B.returns
  have hts := atoms_spec (ws := ws_M_isSameList) B.pre
  have hown : s.vm.findClass "DecodeTestsModel" = some m.cls := findClass_of_methodNamed B.named
  have hlocks := B.notSynchronized
  have hT : ∀ w9 ∈ zz_T, w9.before ([.ref aM0, .int (nI v), .int (nI w)] : List Value).toArray s = true := fun w9 h => hts w9 (List.mem_cons_of_mem _ h)
  have hl := lv_entry ([.ref aM0, .int (nI v), .int (nI w)]) (n := 5) (Nat.le_of_ble_eq_true rfl)
  rw [lg_entry_eq]
  generalize (lg_sl ([.ref aM0, .int (nI v), .int (nI w)]) ++ List.replicate (5 - (lg_sl ([.ref aM0, .int (nI v), .int (nI w)])).length) Slot.unset).toArray = ls at hl ⊢
  have hl : lv_has ls 5 [(0, .ref aM0), (1, .int (nI v)), (2, .int (nI w))] := hl
  have b1 := hls v
  have b2 := hls w
  refine lv_aload_n hx hb d_M_isSameList_0 rfl (lv_at hl 0 rfl) ?_
  refine va_get (D := D) (ci := 6) (v := .ref bls) (C := "DecodeTestsModel") (T := F_M) (N := 32) hx hb hT hin_M hown hK hP 0 rfl rfl 9 (by decide) (hT _ q_f_M_25) (fun _ h9 => h9) rfl d_M_isSameList_1 ?_
  refine lv_iload_n hx hb d_M_isSameList_4 rfl (lv_at hl 1 rfl) ?_
  refine zz_iald hx hb hK hP 1 0 rfl rfl (j := v) (by omega) (by omega) d_M_isSameList_5 ?_
  refine zz_top (y := nI (fls v)) rfl ?_
  refine lv_aload_n hx hb d_M_isSameList_6 rfl (lv_at hl 0 rfl) ?_
  refine va_get (D := D) (ci := 6) (v := .ref bls) (C := "DecodeTestsModel") (T := F_M) (N := 32) hx hb hT hin_M hown hK hP 0 rfl rfl 9 (by decide) (hT _ q_f_M_25) (fun _ h9 => h9) rfl d_M_isSameList_7 ?_
  refine lv_iload_n hx hb d_M_isSameList_10 rfl (lv_at hl 2 rfl) ?_
  refine zz_iald hx hb hK hP 1 0 rfl rfl (j := w) (by omega) (by omega) d_M_isSameList_11 ?_
  refine zz_top (y := nI (fls w)) rfl ?_
  refine lv_icmp_ne (tgt := 19) hx hb d_M_isSameList_12 (by decide) (fun c12 => ?_) (fun c12 => ?_)
  · rw [zz_eq (by omega) (by omega)] at c12
    refine lv_iconst (v := nI 0) hx hb d_M_isSameList_19 (by decide) ?_
    refine zz_top (y := nI (zz_b false)) (rfl) ?_
    refine lv_istore_n (lv' := [(3, .int (nI (zz_b false))), (0, .ref aM0), (1, .int (nI v)), (2, .int (nI w))]) hx hb d_M_isSameList_20 rfl hl (by decide) rfl (fun ls hl => ?_)
    refine lv_iconst (v := nI 0) hx hb d_M_isSameList_21 (by decide) ?_
    refine lv_istore (lv' := [(4, .int (nI 0)), (3, .int (nI (zz_b false))), (0, .ref aM0), (1, .int (nI v)), (2, .int (nI w))]) hx hb d_M_isSameList_22 hl (by decide) rfl (fun ls hl => ?_)
    have lp : ∀ (fu : Nat) (k : Nat) (sm : Bool), (k ≤ 14) → ((if sm = true then zM_sl fli v w k (fls v - k) else false) = zM_same fli fls v w) → 14 - k < fu → ∀ (ls : Array Slot), lv_has ls 5 [(0, .ref aM0), (1, .int (nI v)), (2, .int (nI w)), (3, .int (nI (zz_b sm))), (4, .int (nI k))] → W p l e (headSpec ws_M_isSameList ({ frames := 0, cells := 0, slots := 0, locals := 0 })).room s m ([.ref aM0, .int (nI v), .int (nI w)] : List Value).toArray below meth c s.heap [] 0 0 (MQ below (QcRead (nI (zz_b (zM_same fli fls v w)))) ([.ref aM0, .int (nI v), .int (nI w)] : List Value).toArray s 0 0 (fun _ => False)) (F0 m 24 ls []) := by
      intro fu
      induction fu with
      | zero => intro k sm hi hinv hmu; exact absurd hmu (Nat.not_lt_zero _)
      | succ fu ih_lp =>
        intro k sm hi hinv hmu ls hl
        refine lv_iload_n hx hb d_M_isSameList_24 rfl (lv_at hl 3 rfl) ?_
        refine lv_if_eq (tgt := 78) hx hb d_M_isSameList_25 (by decide) (fun c25 => ?_) (fun c25 => ?_)
        · rw [zz_b0] at c25
          refine lv_iload_n hx hb d_M_isSameList_78 rfl (lv_at hl 3 rfl) ?_
          exact W.zret (v := nI (zz_b sm)) (ty := .boolean) hx hb hr (zz_nb _) (fun t ht _ => zz_rd (by first | (rw [c25] at hinv ⊢; rw [← hinv]; rfl) | (rw [← hinv, c25, show fls v - k = 0 by omega]; rfl)) ht) (fun _ h => by cases h) d_M_isSameList_79
        · rw [zz_bn0] at c25
          refine lv_iload hx hb d_M_isSameList_28 (lv_at hl 4 rfl) ?_
          refine lv_aload_n hx hb d_M_isSameList_30 rfl (lv_at hl 0 rfl) ?_
          refine va_get (D := D) (ci := 6) (v := .ref bls) (C := "DecodeTestsModel") (T := F_M) (N := 32) hx hb hT hin_M hown hK hP 0 rfl rfl 9 (by decide) (hT _ q_f_M_25) (fun _ h9 => h9) rfl d_M_isSameList_31 ?_
          refine lv_iload_n hx hb d_M_isSameList_34 rfl (lv_at hl 1 rfl) ?_
          refine zz_iald hx hb hK hP 1 0 rfl rfl (j := v) (by omega) (by omega) d_M_isSameList_35 ?_
          refine zz_top (y := nI (fls v)) rfl ?_
          refine lv_icmp_ge (tgt := 78) hx hb d_M_isSameList_36 (by decide) (fun c36 => ?_) (fun c36 => ?_)
          · rw [zz_le (by omega) (by omega)] at c36
            refine lv_iload_n hx hb d_M_isSameList_78 rfl (lv_at hl 3 rfl) ?_
            exact W.zret (v := nI (zz_b sm)) (ty := .boolean) hx hb hr (zz_nb _) (fun t ht _ => zz_rd (by first | (rw [c25] at hinv ⊢; rw [← hinv]; rfl) | (rw [← hinv, c25, show fls v - k = 0 by omega]; rfl)) ht) (fun _ h => by cases h) d_M_isSameList_79
          · rw [zz_le (by omega) (by omega)] at c36
            have b3 := hli (14 * v + k)
            have b4 := hli (14 * w + k)
            refine lv_aload_n hx hb d_M_isSameList_39 rfl (lv_at hl 0 rfl) ?_
            refine va_get (D := D) (ci := 6) (v := .ref bli) (C := "DecodeTestsModel") (T := F_M) (N := 32) hx hb hT hin_M hown hK hP 0 rfl rfl 10 (by decide) (hT _ q_f_M_28) (fun _ h9 => h9) rfl d_M_isSameList_40 ?_
            refine lv_bipush (v := nI 14) hx hb d_M_isSameList_43 (by decide) ?_
            refine lv_iload_n hx hb d_M_isSameList_45 rfl (lv_at hl 1 rfl) ?_
            refine lv_imul hx hb d_M_isSameList_46 ?_
            refine zz_top (y := nI (14 * v)) (pk_mul 14 v) ?_
            refine lv_iload hx hb d_M_isSameList_47 (lv_at hl 4 rfl) ?_
            refine lv_iadd hx hb d_M_isSameList_49 ?_
            refine zz_top (y := nI (14 * v + k)) (nI_add (14 * v) k) ?_
            refine zz_iald hx hb hK hP 2 0 rfl rfl (j := 14 * v + k) (by omega) (by omega) d_M_isSameList_50 ?_
            refine zz_top (y := nI (fli (14 * v + k))) rfl ?_
            refine lv_aload_n hx hb d_M_isSameList_51 rfl (lv_at hl 0 rfl) ?_
            refine va_get (D := D) (ci := 6) (v := .ref bli) (C := "DecodeTestsModel") (T := F_M) (N := 32) hx hb hT hin_M hown hK hP 0 rfl rfl 10 (by decide) (hT _ q_f_M_28) (fun _ h9 => h9) rfl d_M_isSameList_52 ?_
            refine lv_bipush (v := nI 14) hx hb d_M_isSameList_55 (by decide) ?_
            refine lv_iload_n hx hb d_M_isSameList_57 rfl (lv_at hl 2 rfl) ?_
            refine lv_imul hx hb d_M_isSameList_58 ?_
            refine zz_top (y := nI (14 * w)) (pk_mul 14 w) ?_
            refine lv_iload hx hb d_M_isSameList_59 (lv_at hl 4 rfl) ?_
            refine lv_iadd hx hb d_M_isSameList_61 ?_
            refine zz_top (y := nI (14 * w + k)) (nI_add (14 * w) k) ?_
            refine zz_iald hx hb hK hP 2 0 rfl rfl (j := 14 * w + k) (by omega) (by omega) d_M_isSameList_62 ?_
            refine zz_top (y := nI (fli (14 * w + k))) rfl ?_
            refine lv_icmp_ne (tgt := 70) hx hb d_M_isSameList_63 (by decide) (fun c63 => ?_) (fun c63 => ?_)
            · rw [zz_eq (by omega) (by omega)] at c63
              refine lv_iconst (v := nI 0) hx hb d_M_isSameList_70 (by decide) ?_
              refine zz_top (y := nI (zz_b false)) (rfl) ?_
              refine lv_istore_n (lv' := [(3, .int (nI (zz_b false))), (0, .ref aM0), (1, .int (nI v)), (2, .int (nI w)), (4, .int (nI k))]) hx hb d_M_isSameList_71 rfl hl (by decide) rfl (fun ls hl => ?_)
              refine lv_iinc (v := nI (k + 1)) (lv' := [(4, .int (nI (k + 1))), (3, .int (nI (zz_b false))), (0, .ref aM0), (1, .int (nI v)), (2, .int (nI w))]) hx hb d_M_isSameList_72 hl (k := 4) rfl (nI_add k 1) (by decide) rfl (fun ls hl => ?_)
              refine lv_goto (tgt := 24) hx hb d_M_isSameList_75 (by decide) ?_
              exact ih_lp (k + 1) false (by omega) (by rw [← hinv, c25, show fls v - k = (fls v - (k + 1)) + 1 by omega, zM_sl]; simp_all) (by omega) ls (lv_sub hl [2, 3, 4, 1, 0] rfl)
            · rw [zz_eq (by omega) (by omega)] at c63
              refine lv_iconst (v := nI 1) hx hb d_M_isSameList_66 (by decide) ?_
              refine lv_goto (tgt := 71) hx hb d_M_isSameList_67 (by decide) ?_
              refine zz_top (y := nI (zz_b true)) (rfl) ?_
              refine lv_istore_n (lv' := [(3, .int (nI (zz_b true))), (0, .ref aM0), (1, .int (nI v)), (2, .int (nI w)), (4, .int (nI k))]) hx hb d_M_isSameList_71 rfl hl (by decide) rfl (fun ls hl => ?_)
              refine lv_iinc (v := nI (k + 1)) (lv' := [(4, .int (nI (k + 1))), (3, .int (nI (zz_b true))), (0, .ref aM0), (1, .int (nI v)), (2, .int (nI w))]) hx hb d_M_isSameList_72 hl (k := 4) rfl (nI_add k 1) (by decide) rfl (fun ls hl => ?_)
              refine lv_goto (tgt := 24) hx hb d_M_isSameList_75 (by decide) ?_
              exact ih_lp (k + 1) true (by omega) (by rw [← hinv, c25, show fls v - k = (fls v - (k + 1)) + 1 by omega, zM_sl]; simp_all) (by omega) ls (lv_sub hl [2, 3, 4, 1, 0] rfl)
    exact lp (14 + 1) 0 false (by omega) (by unfold zM_same; rw [if_neg c12]; rfl) (Nat.lt_succ_self _) ls (lv_sub hl [2, 3, 4, 1, 0] rfl)
  · rw [zz_eq (by omega) (by omega)] at c12
    refine lv_iconst (v := nI 1) hx hb d_M_isSameList_15 (by decide) ?_
    refine lv_goto (tgt := 20) hx hb d_M_isSameList_16 (by decide) ?_
    refine zz_top (y := nI (zz_b true)) (rfl) ?_
    refine lv_istore_n (lv' := [(3, .int (nI (zz_b true))), (0, .ref aM0), (1, .int (nI v)), (2, .int (nI w))]) hx hb d_M_isSameList_20 rfl hl (by decide) rfl (fun ls hl => ?_)
    refine lv_iconst (v := nI 0) hx hb d_M_isSameList_21 (by decide) ?_
    refine lv_istore (lv' := [(4, .int (nI 0)), (3, .int (nI (zz_b true))), (0, .ref aM0), (1, .int (nI v)), (2, .int (nI w))]) hx hb d_M_isSameList_22 hl (by decide) rfl (fun ls hl => ?_)
    have lp : ∀ (fu : Nat) (k : Nat) (sm : Bool), (k ≤ 14) → ((if sm = true then zM_sl fli v w k (fls v - k) else false) = zM_same fli fls v w) → 14 - k < fu → ∀ (ls : Array Slot), lv_has ls 5 [(0, .ref aM0), (1, .int (nI v)), (2, .int (nI w)), (3, .int (nI (zz_b sm))), (4, .int (nI k))] → W p l e (headSpec ws_M_isSameList ({ frames := 0, cells := 0, slots := 0, locals := 0 })).room s m ([.ref aM0, .int (nI v), .int (nI w)] : List Value).toArray below meth c s.heap [] 0 0 (MQ below (QcRead (nI (zz_b (zM_same fli fls v w)))) ([.ref aM0, .int (nI v), .int (nI w)] : List Value).toArray s 0 0 (fun _ => False)) (F0 m 24 ls []) := by
      intro fu
      induction fu with
      | zero => intro k sm hi hinv hmu; exact absurd hmu (Nat.not_lt_zero _)
      | succ fu ih_lp =>
        intro k sm hi hinv hmu ls hl
        refine lv_iload_n hx hb d_M_isSameList_24 rfl (lv_at hl 3 rfl) ?_
        refine lv_if_eq (tgt := 78) hx hb d_M_isSameList_25 (by decide) (fun c25 => ?_) (fun c25 => ?_)
        · rw [zz_b0] at c25
          refine lv_iload_n hx hb d_M_isSameList_78 rfl (lv_at hl 3 rfl) ?_
          exact W.zret (v := nI (zz_b sm)) (ty := .boolean) hx hb hr (zz_nb _) (fun t ht _ => zz_rd (by first | (rw [c25] at hinv ⊢; rw [← hinv]; rfl) | (rw [← hinv, c25, show fls v - k = 0 by omega]; rfl)) ht) (fun _ h => by cases h) d_M_isSameList_79
        · rw [zz_bn0] at c25
          refine lv_iload hx hb d_M_isSameList_28 (lv_at hl 4 rfl) ?_
          refine lv_aload_n hx hb d_M_isSameList_30 rfl (lv_at hl 0 rfl) ?_
          refine va_get (D := D) (ci := 6) (v := .ref bls) (C := "DecodeTestsModel") (T := F_M) (N := 32) hx hb hT hin_M hown hK hP 0 rfl rfl 9 (by decide) (hT _ q_f_M_25) (fun _ h9 => h9) rfl d_M_isSameList_31 ?_
          refine lv_iload_n hx hb d_M_isSameList_34 rfl (lv_at hl 1 rfl) ?_
          refine zz_iald hx hb hK hP 1 0 rfl rfl (j := v) (by omega) (by omega) d_M_isSameList_35 ?_
          refine zz_top (y := nI (fls v)) rfl ?_
          refine lv_icmp_ge (tgt := 78) hx hb d_M_isSameList_36 (by decide) (fun c36 => ?_) (fun c36 => ?_)
          · rw [zz_le (by omega) (by omega)] at c36
            refine lv_iload_n hx hb d_M_isSameList_78 rfl (lv_at hl 3 rfl) ?_
            exact W.zret (v := nI (zz_b sm)) (ty := .boolean) hx hb hr (zz_nb _) (fun t ht _ => zz_rd (by first | (rw [c25] at hinv ⊢; rw [← hinv]; rfl) | (rw [← hinv, c25, show fls v - k = 0 by omega]; rfl)) ht) (fun _ h => by cases h) d_M_isSameList_79
          · rw [zz_le (by omega) (by omega)] at c36
            have b3 := hli (14 * v + k)
            have b4 := hli (14 * w + k)
            refine lv_aload_n hx hb d_M_isSameList_39 rfl (lv_at hl 0 rfl) ?_
            refine va_get (D := D) (ci := 6) (v := .ref bli) (C := "DecodeTestsModel") (T := F_M) (N := 32) hx hb hT hin_M hown hK hP 0 rfl rfl 10 (by decide) (hT _ q_f_M_28) (fun _ h9 => h9) rfl d_M_isSameList_40 ?_
            refine lv_bipush (v := nI 14) hx hb d_M_isSameList_43 (by decide) ?_
            refine lv_iload_n hx hb d_M_isSameList_45 rfl (lv_at hl 1 rfl) ?_
            refine lv_imul hx hb d_M_isSameList_46 ?_
            refine zz_top (y := nI (14 * v)) (pk_mul 14 v) ?_
            refine lv_iload hx hb d_M_isSameList_47 (lv_at hl 4 rfl) ?_
            refine lv_iadd hx hb d_M_isSameList_49 ?_
            refine zz_top (y := nI (14 * v + k)) (nI_add (14 * v) k) ?_
            refine zz_iald hx hb hK hP 2 0 rfl rfl (j := 14 * v + k) (by omega) (by omega) d_M_isSameList_50 ?_
            refine zz_top (y := nI (fli (14 * v + k))) rfl ?_
            refine lv_aload_n hx hb d_M_isSameList_51 rfl (lv_at hl 0 rfl) ?_
            refine va_get (D := D) (ci := 6) (v := .ref bli) (C := "DecodeTestsModel") (T := F_M) (N := 32) hx hb hT hin_M hown hK hP 0 rfl rfl 10 (by decide) (hT _ q_f_M_28) (fun _ h9 => h9) rfl d_M_isSameList_52 ?_
            refine lv_bipush (v := nI 14) hx hb d_M_isSameList_55 (by decide) ?_
            refine lv_iload_n hx hb d_M_isSameList_57 rfl (lv_at hl 2 rfl) ?_
            refine lv_imul hx hb d_M_isSameList_58 ?_
            refine zz_top (y := nI (14 * w)) (pk_mul 14 w) ?_
            refine lv_iload hx hb d_M_isSameList_59 (lv_at hl 4 rfl) ?_
            refine lv_iadd hx hb d_M_isSameList_61 ?_
            refine zz_top (y := nI (14 * w + k)) (nI_add (14 * w) k) ?_
            refine zz_iald hx hb hK hP 2 0 rfl rfl (j := 14 * w + k) (by omega) (by omega) d_M_isSameList_62 ?_
            refine zz_top (y := nI (fli (14 * w + k))) rfl ?_
            refine lv_icmp_ne (tgt := 70) hx hb d_M_isSameList_63 (by decide) (fun c63 => ?_) (fun c63 => ?_)
            · rw [zz_eq (by omega) (by omega)] at c63
              refine lv_iconst (v := nI 0) hx hb d_M_isSameList_70 (by decide) ?_
              refine zz_top (y := nI (zz_b false)) (rfl) ?_
              refine lv_istore_n (lv' := [(3, .int (nI (zz_b false))), (0, .ref aM0), (1, .int (nI v)), (2, .int (nI w)), (4, .int (nI k))]) hx hb d_M_isSameList_71 rfl hl (by decide) rfl (fun ls hl => ?_)
              refine lv_iinc (v := nI (k + 1)) (lv' := [(4, .int (nI (k + 1))), (3, .int (nI (zz_b false))), (0, .ref aM0), (1, .int (nI v)), (2, .int (nI w))]) hx hb d_M_isSameList_72 hl (k := 4) rfl (nI_add k 1) (by decide) rfl (fun ls hl => ?_)
              refine lv_goto (tgt := 24) hx hb d_M_isSameList_75 (by decide) ?_
              exact ih_lp (k + 1) false (by omega) (by rw [← hinv, c25, show fls v - k = (fls v - (k + 1)) + 1 by omega, zM_sl]; simp_all) (by omega) ls (lv_sub hl [2, 3, 4, 1, 0] rfl)
            · rw [zz_eq (by omega) (by omega)] at c63
              refine lv_iconst (v := nI 1) hx hb d_M_isSameList_66 (by decide) ?_
              refine lv_goto (tgt := 71) hx hb d_M_isSameList_67 (by decide) ?_
              refine zz_top (y := nI (zz_b true)) (rfl) ?_
              refine lv_istore_n (lv' := [(3, .int (nI (zz_b true))), (0, .ref aM0), (1, .int (nI v)), (2, .int (nI w)), (4, .int (nI k))]) hx hb d_M_isSameList_71 rfl hl (by decide) rfl (fun ls hl => ?_)
              refine lv_iinc (v := nI (k + 1)) (lv' := [(4, .int (nI (k + 1))), (3, .int (nI (zz_b true))), (0, .ref aM0), (1, .int (nI v)), (2, .int (nI w))]) hx hb d_M_isSameList_72 hl (k := 4) rfl (nI_add k 1) (by decide) rfl (fun ls hl => ?_)
              refine lv_goto (tgt := 24) hx hb d_M_isSameList_75 (by decide) ?_
              exact ih_lp (k + 1) true (by omega) (by rw [← hinv, c25, show fls v - k = (fls v - (k + 1)) + 1 by omega, zM_sl]; simp_all) (by omega) ls (lv_sub hl [2, 3, 4, 1, 0] rfl)
    exact lp (14 + 1) 0 true (by omega) (by unfold zM_same; rw [if_pos c12]; rfl) (Nat.lt_succ_self _) ls (lv_sub hl [2, 3, 4, 1, 0] rfl)

set_option maxHeartbeats 4000000 in
set_option maxRecDepth 100000 in
theorem c_M_makeLists (l : Launch) (D : va_G) (cA : ClassId) (aM0 : Nat) (xth : Nat) (xw : Nat) (xn : Nat) (xk : Nat) (xnd : Nat) (xst : Nat) (xh : Nat) (xb : Nat) (xt : Nat) (xta : Nat) (bmk : Nat) (bvl : Nat) (bln : Nat) (bfl : Nat) (bal : Nat) (bls : Nat) (bli : Nat) (bon : Nat) (bmn : Nat) (bbt : Nat) (bwo : Nat) (bto : Nat) (bun : Nat) (bse : Nat) (bze : Nat) (bno : Nat) (bwa : Nat) (bpa : Nat) (bwd : Nat) (brw : Nat) (brf : Nat) (bra : Nat) (fmk : Nat → Nat) (fvl : Nat → Nat) (ffl : Nat → Nat) (fal : Nat → Nat) (fls : Nat → Nat) (fli : Nat → Nat) (sz : Nat) (hmk : ∀ j, fmk j < 256) (hvl : ∀ j, fvl j < 256) (hfl : ∀ j, ffl j ≤ 8) (hxn : xn ≤ 14) (hW : xw ≤ 8) (hlb0 : ∀ j, fli j < 14) (hsb0 : ∀ j, fls j ≤ 14) : Met l y_M_makeLists ws_M_makeLists ({ frames := 2, cells := 0, slots := 0, locals := 46 }) (va_Pc [.ref aM0] (zz_preW D vwCl [(cA, .int)] [(aM0, .inr (6, [.int (nI xth), .int (nI xw), .int (nI xn), .int (nI xk), .ref bmk, .ref bvl, .ref bln, .ref bfl, .ref bal, .ref bls, .ref bli, .ref bon, .ref bmn, .ref bbt, .ref bwo, .ref bto, .ref bun, .int (nI xnd), .ref bse, .ref bze, .ref bno, .ref bwa, .ref bpa, .int (nI xst), .ref bwd, .int (nI xh), .int (nI xb), .int (nI xt), .int (nI xta), .ref brw, .ref brf, .ref bra])), (bmk, .inl (cA, 14, .inl (fun j => nI (fmk j)))), (bvl, .inl (cA, 14, .inl (fun j => nI (fvl j)))), (bfl, .inl (cA, 14, .inl (fun j => zz_o (ffl j)))), (bal, .inl (cA, 256, .inl (fun j => nI (fal j)))), (bls, .inl (cA, 256, .inl (fun j => nI (fls j)))), (bli, .inl (cA, 3584, .inl (fun j => nI (fli j))))] sz zz_nx)) (va_Qv (fun _ : Unit => True) (fun _ => zz_post D vwCl [(cA, .int)] (va_A [(aM0, .inr (6, [.int (nI xth), .int (nI xw), .int (nI xn), .int (nI xk), .ref bmk, .ref bvl, .ref bln, .ref bfl, .ref bal, .ref bls, .ref bli, .ref bon, .ref bmn, .ref bbt, .ref bwo, .ref bto, .ref bun, .int (nI xnd), .ref bse, .ref bze, .ref bno, .ref bwa, .ref bpa, .int (nI xst), .ref bwd, .int (nI xh), .int (nI xb), .int (nI xt), .int (nI xta), .ref brw, .ref brf, .ref bra])), (bmk, .inl (cA, 14, .inl (fun j => nI (fmk j)))), (bvl, .inl (cA, 14, .inl (fun j => nI (fvl j)))), (bfl, .inl (cA, 14, .inl (fun j => zz_o (ffl j)))), (bal, .inl (cA, 256, .inl (fun j => nI (fal j)))), (bls, .inl (cA, 256, .inl (fun j => nI (fls j)))), (bli, .inl (cA, 3584, .inl (fun j => nI (fli j))))] sz) [(aM0, .inr (6, [.int (nI xth), .int (nI xw), .int (nI xn), .int (nI xk), .ref bmk, .ref bvl, .ref bln, .ref bfl, .ref bal, .ref bls, .ref bli, .ref bon, .ref bmn, .ref bbt, .ref bwo, .ref bto, .ref bun, .int (nI xnd), .ref bse, .ref bze, .ref bno, .ref bwa, .ref bpa, .int (nI xst), .ref bwd, .int (nI xh), .int (nI xb), .int (nI xt), .int (nI xta), .ref brw, .ref brf, .ref bra])), (bmk, .inl (cA, 14, .inl (fun j => nI (fmk j)))), (bvl, .inl (cA, 14, .inl (fun j => nI (fvl j)))), (bfl, .inl (cA, 14, .inl (fun j => zz_o (ffl j)))), (bal, .inl (cA, 256, .inl (fun j => nI (((zM_lists fmk fvl ffl xn 0 (1 * 2 ^ xw) (fli, fls, fal)).2.2) j)))), (bls, .inl (cA, 256, .inl (fun j => nI (((zM_lists fmk fvl ffl xn 0 (1 * 2 ^ xw) (fli, fls, fal)).2.1) j)))), (bli, .inl (cA, 3584, .inl (fun j => nI (((zM_lists fmk fvl ffl xn 0 (1 * 2 ^ xw) (fli, fls, fal)).1) j))))]) (va_A [(aM0, .inr (6, [.int (nI xth), .int (nI xw), .int (nI xn), .int (nI xk), .ref bmk, .ref bvl, .ref bln, .ref bfl, .ref bal, .ref bls, .ref bli, .ref bon, .ref bmn, .ref bbt, .ref bwo, .ref bto, .ref bun, .int (nI xnd), .ref bse, .ref bze, .ref bno, .ref bwa, .ref bpa, .int (nI xst), .ref bwd, .int (nI xh), .int (nI xb), .int (nI xt), .int (nI xta), .ref brw, .ref brf, .ref bra])), (bmk, .inl (cA, 14, .inl (fun j => nI (fmk j)))), (bvl, .inl (cA, 14, .inl (fun j => nI (fvl j)))), (bfl, .inl (cA, 14, .inl (fun j => zz_o (ffl j)))), (bal, .inl (cA, 256, .inl (fun j => nI (fal j)))), (bls, .inl (cA, 256, .inl (fun j => nI (fls j)))), (bli, .inl (cA, 3584, .inl (fun j => nI (fli j))))] sz)) 0 0 (va_A [(aM0, .inr (6, [.int (nI xth), .int (nI xw), .int (nI xn), .int (nI xk), .ref bmk, .ref bvl, .ref bln, .ref bfl, .ref bal, .ref bls, .ref bli, .ref bon, .ref bmn, .ref bbt, .ref bwo, .ref bto, .ref bun, .int (nI xnd), .ref bse, .ref bze, .ref bno, .ref bwa, .ref bpa, .int (nI xst), .ref bwd, .int (nI xh), .int (nI xb), .int (nI xt), .int (nI xta), .ref brw, .ref brf, .ref bra])), (bmk, .inl (cA, 14, .inl (fun j => nI (fmk j)))), (bvl, .inl (cA, 14, .inl (fun j => nI (fvl j)))), (bfl, .inl (cA, 14, .inl (fun j => zz_o (ffl j)))), (bal, .inl (cA, 256, .inl (fun j => nI (fal j)))), (bls, .inl (cA, 256, .inl (fun j => nI (fls j)))), (bli, .inl (cA, 3584, .inl (fun j => nI (fli j))))] sz) := by
  refine Met.ofW (cc := b_M_makeLists) (maxL := 3) (ret := none) (by decide) rfl ?_
  intro p e s m args below meth c s₁ B hml hv
  obtain ⟨rfl, hsz, hP, hK, hD0, hX⟩ := hv
  have hx := B.exec
  have hb := B.bytes
  have hr := B.returns
  have hts := atoms_spec (ws := ws_M_makeLists) B.pre
  have hown : s.vm.findClass "DecodeTestsModel" = some m.cls := findClass_of_methodNamed B.named
  have hlocks := B.notSynchronized
  have hT : ∀ w9 ∈ zz_T, w9.before ([.ref aM0] : List Value).toArray s = true := fun w9 h => hts w9 (List.mem_cons_of_mem _ h)
  subst hsz
  have hD := hD0.self (sz := s.heap.size)
  generalize hAe : va_A [(aM0, .inr (6, [.int (nI xth), .int (nI xw), .int (nI xn), .int (nI xk), .ref bmk, .ref bvl, .ref bln, .ref bfl, .ref bal, .ref bls, .ref bli, .ref bon, .ref bmn, .ref bbt, .ref bwo, .ref bto, .ref bun, .int (nI xnd), .ref bse, .ref bze, .ref bno, .ref bwa, .ref bpa, .int (nI xst), .ref bwd, .int (nI xh), .int (nI xb), .int (nI xt), .int (nI xta), .ref brw, .ref brf, .ref bra])), (bmk, .inl (cA, 14, .inl (fun j => nI (fmk j)))), (bvl, .inl (cA, 14, .inl (fun j => nI (fvl j)))), (bfl, .inl (cA, 14, .inl (fun j => zz_o (ffl j)))), (bal, .inl (cA, 256, .inl (fun j => nI (fal j)))), (bls, .inl (cA, 256, .inl (fun j => nI (fls j)))), (bli, .inl (cA, 3584, .inl (fun j => nI (fli j))))] s.heap.size = A at hD hX ⊢
  have hA : ∀ q : Nat, s.heap.size ≤ q → A q := fun q h => by rw [← hAe]; exact Or.inr h
  have hS : va_S A s.heap s.heap [] := va_S.rf
  have hl := lv_entry ([.ref aM0]) (n := 3) (Nat.le_of_ble_eq_true rfl)
  rw [lg_entry_eq]
  generalize (lg_sl ([.ref aM0]) ++ List.replicate (3 - (lg_sl ([.ref aM0])).length) Slot.unset).toArray = ls at hl ⊢
  have hl : lv_has ls 3 [(0, .ref aM0)] := hl
  have p2 := zz_2le (a := 1) hW
  refine lv_iconst (v := nI 0) hx hb d_M_makeLists_0 (by decide) ?_
  refine lv_istore_n (lv' := [(1, .int (nI 0)), (0, .ref aM0)]) hx hb d_M_makeLists_1 rfl hl (by decide) rfl (fun ls hl => ?_)
  have lp : ∀ (fu : Nat) (i : Nat) (li : Nat → Nat) (sz9 : Nat → Nat) (al : Nat → Nat), (i ≤ 1 * 2 ^ xw) → (∀ j, li j < 14) → (∀ j, sz9 j ≤ 14) → (zM_lists fmk fvl ffl xn i (1 * 2 ^ xw - i) (li, sz9, al) = zM_lists fmk fvl ffl xn 0 (1 * 2 ^ xw) (fli, fls, fal)) → 1 * 2 ^ xw - i < fu → ∀ (H : Heap) (locs : List Loc), va_P D vwCl [(aM0, .inr (6, [.int (nI xth), .int (nI xw), .int (nI xn), .int (nI xk), .ref bmk, .ref bvl, .ref bln, .ref bfl, .ref bal, .ref bls, .ref bli, .ref bon, .ref bmn, .ref bbt, .ref bwo, .ref bto, .ref bun, .int (nI xnd), .ref bse, .ref bze, .ref bno, .ref bwa, .ref bpa, .int (nI xst), .ref bwd, .int (nI xh), .int (nI xb), .int (nI xt), .int (nI xta), .ref brw, .ref brf, .ref bra])), (bmk, .inl (cA, 14, .inl (fun j => nI (fmk j)))), (bvl, .inl (cA, 14, .inl (fun j => nI (fvl j)))), (bfl, .inl (cA, 14, .inl (fun j => zz_o (ffl j)))), (bal, .inl (cA, 256, .inl (fun j => nI (al j)))), (bls, .inl (cA, 256, .inl (fun j => nI (sz9 j)))), (bli, .inl (cA, 3584, .inl (fun j => nI (li j))))] H → va_D A [(aM0, .inr (6, [.int (nI xth), .int (nI xw), .int (nI xn), .int (nI xk), .ref bmk, .ref bvl, .ref bln, .ref bfl, .ref bal, .ref bls, .ref bli, .ref bon, .ref bmn, .ref bbt, .ref bwo, .ref bto, .ref bun, .int (nI xnd), .ref bse, .ref bze, .ref bno, .ref bwa, .ref bpa, .int (nI xst), .ref bwd, .int (nI xh), .int (nI xb), .int (nI xt), .int (nI xta), .ref brw, .ref brf, .ref bra])), (bmk, .inl (cA, 14, .inl (fun j => nI (fmk j)))), (bvl, .inl (cA, 14, .inl (fun j => nI (fvl j)))), (bfl, .inl (cA, 14, .inl (fun j => zz_o (ffl j)))), (bal, .inl (cA, 256, .inl (fun j => nI (al j)))), (bls, .inl (cA, 256, .inl (fun j => nI (sz9 j)))), (bli, .inl (cA, 3584, .inl (fun j => nI (li j))))] → va_S A s.heap H locs → ∀ (ls : Array Slot), lv_has ls 3 [(0, .ref aM0), (1, .int (nI i))] → W p l e (headSpec ws_M_makeLists ({ frames := 2, cells := 0, slots := 0, locals := 46 })).room s m ([.ref aM0] : List Value).toArray below meth c H locs 0 0 (MQ below (va_Qv (fun _ : Unit => True) (fun _ => zz_post D vwCl [(cA, .int)] A [(aM0, .inr (6, [.int (nI xth), .int (nI xw), .int (nI xn), .int (nI xk), .ref bmk, .ref bvl, .ref bln, .ref bfl, .ref bal, .ref bls, .ref bli, .ref bon, .ref bmn, .ref bbt, .ref bwo, .ref bto, .ref bun, .int (nI xnd), .ref bse, .ref bze, .ref bno, .ref bwa, .ref bpa, .int (nI xst), .ref bwd, .int (nI xh), .int (nI xb), .int (nI xt), .int (nI xta), .ref brw, .ref brf, .ref bra])), (bmk, .inl (cA, 14, .inl (fun j => nI (fmk j)))), (bvl, .inl (cA, 14, .inl (fun j => nI (fvl j)))), (bfl, .inl (cA, 14, .inl (fun j => zz_o (ffl j)))), (bal, .inl (cA, 256, .inl (fun j => nI (((zM_lists fmk fvl ffl xn 0 (1 * 2 ^ xw) (fli, fls, fal)).2.2) j)))), (bls, .inl (cA, 256, .inl (fun j => nI (((zM_lists fmk fvl ffl xn 0 (1 * 2 ^ xw) (fli, fls, fal)).2.1) j)))), (bli, .inl (cA, 3584, .inl (fun j => nI (((zM_lists fmk fvl ffl xn 0 (1 * 2 ^ xw) (fli, fls, fal)).1) j))))]) A) ([.ref aM0] : List Value).toArray s 0 0 A) (F0 m 2 ls []) := by
    intro fu
    induction fu with
    | zero => intro i li sz9 al hi hlb hsb hinv hmu; exact absurd hmu (Nat.not_lt_zero _)
    | succ fu ih_lp =>
      intro i li sz9 al hi hlb hsb hinv hmu H locs hP hD hS ls hl
      refine lv_iload_n hx hb d_M_makeLists_2 rfl (lv_at hl 1 rfl) ?_
      refine lv_iconst (v := nI 1) hx hb d_M_makeLists_3 (by decide) ?_
      refine lv_aload_n hx hb d_M_makeLists_4 rfl (lv_at hl 0 rfl) ?_
      refine va_get (D := D) (ci := 6) (v := .int (nI xw)) (C := "DecodeTestsModel") (T := F_M) (N := 32) hx hb hT hin_M hown hK hP 0 rfl rfl 1 (by decide) (hT _ q_f_M_76) (fun _ h9 => h9) rfl d_M_makeLists_5 ?_
      refine lv_ishl hx hb d_M_makeLists_8 ?_
      refine zz_top (y := nI (1 * 2 ^ xw)) (zz_shl (by omega) (by omega)) ?_
      refine lv_icmp_ge (tgt := 47) hx hb d_M_makeLists_9 (by decide) (fun c9 => ?_) (fun c9 => ?_)
      · rw [zz_le (by omega) (by omega)] at c9
        have hP : va_P D vwCl [(aM0, .inr (6, [.int (nI xth), .int (nI xw), .int (nI xn), .int (nI xk), .ref bmk, .ref bvl, .ref bln, .ref bfl, .ref bal, .ref bls, .ref bli, .ref bon, .ref bmn, .ref bbt, .ref bwo, .ref bto, .ref bun, .int (nI xnd), .ref bse, .ref bze, .ref bno, .ref bwa, .ref bpa, .int (nI xst), .ref bwd, .int (nI xh), .int (nI xb), .int (nI xt), .int (nI xta), .ref brw, .ref brf, .ref bra])), (bmk, .inl (cA, 14, .inl (fun j => nI (fmk j)))), (bvl, .inl (cA, 14, .inl (fun j => nI (fvl j)))), (bfl, .inl (cA, 14, .inl (fun j => zz_o (ffl j)))), (bal, .inl (cA, 256, .inl (fun j => nI (((zM_lists fmk fvl ffl xn 0 (1 * 2 ^ xw) (fli, fls, fal)).2.2) j)))), (bls, .inl (cA, 256, .inl (fun j => nI (((zM_lists fmk fvl ffl xn 0 (1 * 2 ^ xw) (fli, fls, fal)).2.1) j)))), (bli, .inl (cA, 3584, .inl (fun j => nI (((zM_lists fmk fvl ffl xn 0 (1 * 2 ^ xw) (fli, fls, fal)).1) j))))] H := by rw [← hinv, zM_lists_e (by omega)]; exact hP
        have hD : va_D A [(aM0, .inr (6, [.int (nI xth), .int (nI xw), .int (nI xn), .int (nI xk), .ref bmk, .ref bvl, .ref bln, .ref bfl, .ref bal, .ref bls, .ref bli, .ref bon, .ref bmn, .ref bbt, .ref bwo, .ref bto, .ref bun, .int (nI xnd), .ref bse, .ref bze, .ref bno, .ref bwa, .ref bpa, .int (nI xst), .ref bwd, .int (nI xh), .int (nI xb), .int (nI xt), .int (nI xta), .ref brw, .ref brf, .ref bra])), (bmk, .inl (cA, 14, .inl (fun j => nI (fmk j)))), (bvl, .inl (cA, 14, .inl (fun j => nI (fvl j)))), (bfl, .inl (cA, 14, .inl (fun j => zz_o (ffl j)))), (bal, .inl (cA, 256, .inl (fun j => nI (((zM_lists fmk fvl ffl xn 0 (1 * 2 ^ xw) (fli, fls, fal)).2.2) j)))), (bls, .inl (cA, 256, .inl (fun j => nI (((zM_lists fmk fvl ffl xn 0 (1 * 2 ^ xw) (fli, fls, fal)).2.1) j)))), (bli, .inl (cA, 3584, .inl (fun j => nI (((zM_lists fmk fvl ffl xn 0 (1 * 2 ^ xw) (fli, fls, fal)).1) j))))] := by rw [← hinv, zM_lists_e (by omega)]; exact hD
        exact W.vret hx hb hr (fun t ht hW => ⟨⟨(), rfl, trivial, by rw [ht]; exact hP, va_K.moved hW.alike hK, hD⟩, hS.F ht⟩) hS.2.2 d_M_makeLists_47
      · rw [zz_le (by omega) (by omega)] at c9
        refine lv_aload_n hx hb d_M_makeLists_12 rfl (lv_at hl 0 rfl) ?_
        refine lv_iload_n hx hb d_M_makeLists_13 rfl (lv_at hl 1 rfl) ?_
        refine zz_wV (As := [.int (nI i)]) (rest := []) (wc := [(aM0, .inr (6, [.int (nI xth), .int (nI xw), .int (nI xn), .int (nI xk), .ref bmk, .ref bvl, .ref bln, .ref bfl, .ref bal, .ref bls, .ref bli, .ref bon, .ref bmn, .ref bbt, .ref bwo, .ref bto, .ref bun, .int (nI xnd), .ref bse, .ref bze, .ref bno, .ref bwa, .ref bpa, .int (nI xst), .ref bwd, .int (nI xh), .int (nI xb), .int (nI xt), .int (nI xta), .ref brw, .ref brf, .ref bra])), (bmk, .inl (cA, 14, .inl (fun j => nI (fmk j)))), (bvl, .inl (cA, 14, .inl (fun j => nI (fvl j)))), (bfl, .inl (cA, 14, .inl (fun j => zz_o (ffl j)))), (bls, .inl (cA, 256, .inl (fun j => nI (sz9 j)))), (bli, .inl (cA, 3584, .inl (fun j => nI (li j))))]) (wr := [(bal, .inl (cA, 256, .inl (fun j => nI (al j))))]) (w1 := [(aM0, .inr (6, [.int (nI xth), .int (nI xw), .int (nI xn), .int (nI xk), .ref bmk, .ref bvl, .ref bln, .ref bfl, .ref bal, .ref bls, .ref bli, .ref bon, .ref bmn, .ref bbt, .ref bwo, .ref bto, .ref bun, .int (nI xnd), .ref bse, .ref bze, .ref bno, .ref bwa, .ref bpa, .int (nI xst), .ref bwd, .int (nI xh), .int (nI xb), .int (nI xt), .int (nI xta), .ref brw, .ref brf, .ref bra])), (bmk, .inl (cA, 14, .inl (fun j => nI (fmk j)))), (bvl, .inl (cA, 14, .inl (fun j => nI (fvl j)))), (bfl, .inl (cA, 14, .inl (fun j => zz_o (ffl j)))), (bls, .inl (cA, 256, .inl (fun j => nI ((zz_up sz9 i (zM_ml fmk fvl ffl i 0 xn (li, 0)).2) j)))), (bli, .inl (cA, 3584, .inl (fun j => nI (((zM_ml fmk fvl ffl i 0 xn (li, 0)).1) j))))]) ⟨hx, hb, hml, hown, hts⟩ (c_M_makeList l _ _ aM0 xth xw xn xk xnd xst xh xb xt xta bmk bvl bln bfl bal bls bli bon bmn bbt bwo bto bun bse bze bno bwa bpa bwd brw brf bra fmk fvl ffl sz9 li i _ (hmk) (hvl) (hfl) (by omega) (by omega) (hlb)) (cwV 1 hts g_M_makeLists_97 rfl rfl rfl k_M_makeList ⟨show 1 + 1 ≤ 2 by omega, show 8 + (5 + 11) + 22 ≤ 46 by omega⟩) (zz_blind_nx) hK hP hD hS hA [0, 1, 2, 3, 5, 6] [4] rfl rfl (by decide) (by decide) (by decide) (fun _ _ _ _ => trivial) 6 rfl rfl rfl hl.1 rfl (Nat.le_of_ble_eq_true rfl) d_M_makeLists_14 ⟨Nat.zero_le _, Nat.zero_le _⟩ (fun H locs hP hD hS => ?_)
        have hP : va_P D vwCl [(aM0, .inr (6, [.int (nI xth), .int (nI xw), .int (nI xn), .int (nI xk), .ref bmk, .ref bvl, .ref bln, .ref bfl, .ref bal, .ref bls, .ref bli, .ref bon, .ref bmn, .ref bbt, .ref bwo, .ref bto, .ref bun, .int (nI xnd), .ref bse, .ref bze, .ref bno, .ref bwa, .ref bpa, .int (nI xst), .ref bwd, .int (nI xh), .int (nI xb), .int (nI xt), .int (nI xta), .ref brw, .ref brf, .ref bra])), (bmk, .inl (cA, 14, .inl (fun j => nI (fmk j)))), (bvl, .inl (cA, 14, .inl (fun j => nI (fvl j)))), (bfl, .inl (cA, 14, .inl (fun j => zz_o (ffl j)))), (bal, .inl (cA, 256, .inl (fun j => nI (al j)))), (bls, .inl (cA, 256, .inl (fun j => nI ((zz_up sz9 i (zM_ml fmk fvl ffl i 0 xn (li, 0)).2) j)))), (bli, .inl (cA, 3584, .inl (fun j => nI (((zM_ml fmk fvl ffl i 0 xn (li, 0)).1) j))))] H := hP.sub [1, 2, 3, 4, 0, 5, 6] rfl
        have hD : va_D A [(aM0, .inr (6, [.int (nI xth), .int (nI xw), .int (nI xn), .int (nI xk), .ref bmk, .ref bvl, .ref bln, .ref bfl, .ref bal, .ref bls, .ref bli, .ref bon, .ref bmn, .ref bbt, .ref bwo, .ref bto, .ref bun, .int (nI xnd), .ref bse, .ref bze, .ref bno, .ref bwa, .ref bpa, .int (nI xst), .ref bwd, .int (nI xh), .int (nI xb), .int (nI xt), .int (nI xta), .ref brw, .ref brf, .ref bra])), (bmk, .inl (cA, 14, .inl (fun j => nI (fmk j)))), (bvl, .inl (cA, 14, .inl (fun j => nI (fvl j)))), (bfl, .inl (cA, 14, .inl (fun j => zz_o (ffl j)))), (bal, .inl (cA, 256, .inl (fun j => nI (al j)))), (bls, .inl (cA, 256, .inl (fun j => nI ((zz_up sz9 i (zM_ml fmk fvl ffl i 0 xn (li, 0)).2) j)))), (bli, .inl (cA, 3584, .inl (fun j => nI (((zM_ml fmk fvl ffl i 0 xn (li, 0)).1) j))))] := hD.sub [1, 2, 3, 4, 0, 5, 6] (by decide) rfl
        have mb := zM_ml_b (mk := fmk) (vl := fvl) (fl := ffl) (w := i) xn 0 (li, 0) hlb (Nat.le_refl 0) (by omega)
        refine lv_iconst (v := nI 0) hx hb d_M_makeLists_17 (by decide) ?_
        refine lv_istore_n (lv' := [(2, .int (nI 0)), (0, .ref aM0), (1, .int (nI i))]) hx hb d_M_makeLists_18 rfl hl (by decide) rfl (fun ls hl => ?_)
        have lq : ∀ (fv : Nat) (v : Nat), (v ≤ i) → (zz_first (fun v => zM_same (zM_ml fmk fvl ffl i 0 xn (li, 0)).1 (zz_up sz9 i (zM_ml fmk fvl ffl i 0 xn (li, 0)).2) v i) v (i + 1 - v) = zz_first (fun v => zM_same (zM_ml fmk fvl ffl i 0 xn (li, 0)).1 (zz_up sz9 i (zM_ml fmk fvl ffl i 0 xn (li, 0)).2) v i) 0 (i + 1)) → i + 1 - v < fv → ∀ (ls : Array Slot), lv_has ls 3 [(0, .ref aM0), (1, .int (nI i)), (2, .int (nI v))] → W p l e (headSpec ws_M_makeLists ({ frames := 2, cells := 0, slots := 0, locals := 46 })).room s m ([.ref aM0] : List Value).toArray below meth c H locs 0 0 (MQ below (va_Qv (fun _ : Unit => True) (fun _ => zz_post D vwCl [(cA, .int)] A [(aM0, .inr (6, [.int (nI xth), .int (nI xw), .int (nI xn), .int (nI xk), .ref bmk, .ref bvl, .ref bln, .ref bfl, .ref bal, .ref bls, .ref bli, .ref bon, .ref bmn, .ref bbt, .ref bwo, .ref bto, .ref bun, .int (nI xnd), .ref bse, .ref bze, .ref bno, .ref bwa, .ref bpa, .int (nI xst), .ref bwd, .int (nI xh), .int (nI xb), .int (nI xt), .int (nI xta), .ref brw, .ref brf, .ref bra])), (bmk, .inl (cA, 14, .inl (fun j => nI (fmk j)))), (bvl, .inl (cA, 14, .inl (fun j => nI (fvl j)))), (bfl, .inl (cA, 14, .inl (fun j => zz_o (ffl j)))), (bal, .inl (cA, 256, .inl (fun j => nI (((zM_lists fmk fvl ffl xn 0 (1 * 2 ^ xw) (fli, fls, fal)).2.2) j)))), (bls, .inl (cA, 256, .inl (fun j => nI (((zM_lists fmk fvl ffl xn 0 (1 * 2 ^ xw) (fli, fls, fal)).2.1) j)))), (bli, .inl (cA, 3584, .inl (fun j => nI (((zM_lists fmk fvl ffl xn 0 (1 * 2 ^ xw) (fli, fls, fal)).1) j))))]) A) ([.ref aM0] : List Value).toArray s 0 0 A) (F0 m 19 ls []) := by
          intro fv
          induction fv with
          | zero => intro v hv hinw hmu; exact absurd hmu (Nat.not_lt_zero _)
          | succ fv ih_lq =>
            intro v hv hinw hmu ls hl
            refine lv_aload_n hx hb d_M_makeLists_19 rfl (lv_at hl 0 rfl) ?_
            refine lv_iload_n hx hb d_M_makeLists_20 rfl (lv_at hl 2 rfl) ?_
            refine lv_iload_n hx hb d_M_makeLists_21 rfl (lv_at hl 1 rfl) ?_
            refine zz_rV (As := [.int (nI v), .int (nI i)]) (rest := []) (r := nI (zz_b (zM_same ((zM_ml fmk fvl ffl i 0 xn (li, 0)).1) (zz_up sz9 i (zM_ml fmk fvl ffl i 0 xn (li, 0)).2) v i))) ⟨hx, hb, hml, hown, hts⟩ (c_M_isSameList l _ _ aM0 xth xw xn xk xnd xst xh xb xt xta bmk bvl bln bfl bal bls bli bon bmn bbt bwo bto bun bse bze bno bwa bpa bwd brw brf bra (zz_up sz9 i (zM_ml fmk fvl ffl i 0 xn (li, 0)).2) ((zM_ml fmk fvl ffl i 0 xn (li, 0)).1) v i (mb.1) (zz_up_le hsb mb.2) (by omega) (by omega)) (cwV 2 hts g_M_makeLists_101 rfl rfl rfl k_M_isSameList ⟨show 0 + 1 ≤ 2 by omega, show 8 + (5 + 11) + 0 ≤ 46 by omega⟩) (zz_blind_nx) hK (hP.sub (ws' := [(aM0, .inr (6, [.int (nI xth), .int (nI xw), .int (nI xn), .int (nI xk), .ref bmk, .ref bvl, .ref bln, .ref bfl, .ref bal, .ref bls, .ref bli, .ref bon, .ref bmn, .ref bbt, .ref bwo, .ref bto, .ref bun, .int (nI xnd), .ref bse, .ref bze, .ref bno, .ref bwa, .ref bpa, .int (nI xst), .ref bwd, .int (nI xh), .int (nI xb), .int (nI xt), .int (nI xta), .ref brw, .ref brf, .ref bra])), (bls, .inl (cA, 256, .inl (fun j => nI ((zz_up sz9 i (zM_ml fmk fvl ffl i 0 xn (li, 0)).2) j)))), (bli, .inl (cA, 3584, .inl (fun j => nI (((zM_ml fmk fvl ffl i 0 xn (li, 0)).1) j))))]) [0, 5, 6] rfl) (fun _ _ _ => trivial) 6 0 rfl rfl rfl hl.1 rfl (Nat.le_of_ble_eq_true rfl) d_M_makeLists_22 ⟨Nat.zero_le _, Nat.zero_le _⟩ ?_
            refine lv_if_ne (tgt := 34) hx hb d_M_makeLists_25 (by decide) (fun c25 => ?_) (fun c25 => ?_)
            · rw [zz_bn0] at c25
              have hv9 : zz_first (fun v => zM_same (zM_ml fmk fvl ffl i 0 xn (li, 0)).1 (zz_up sz9 i (zM_ml fmk fvl ffl i 0 xn (li, 0)).2) v i) 0 (i + 1) - 1 = v := by rw [← hinw, zz_first_yes (P := (fun v => zM_same (zM_ml fmk fvl ffl i 0 xn (li, 0)).1 (zz_up sz9 i (zM_ml fmk fvl ffl i 0 xn (li, 0)).2) v i)) (i := v) (n := i + 1) (by omega) c25]; rfl
              refine lv_aload_n hx hb d_M_makeLists_34 rfl (lv_at hl 0 rfl) ?_
              refine va_get (D := D) (ci := 6) (v := .ref bal) (C := "DecodeTestsModel") (T := F_M) (N := 32) hx hb hT hin_M hown hK hP 0 rfl rfl 8 (by decide) (hT _ q_f_M_22) (fun _ h9 => h9) rfl d_M_makeLists_35 ?_
              refine lv_iload_n hx hb d_M_makeLists_38 rfl (lv_at hl 1 rfl) ?_
              refine lv_iload_n hx hb d_M_makeLists_39 rfl (lv_at hl 2 rfl) ?_
              refine zz_iastN hx hb hK hP hD hS 4 0 rfl rfl (j := i) (by omega) (by omega) d_M_makeLists_40 (fun H locs hP hD hS => ?_)
              have hP : va_P D vwCl [(aM0, .inr (6, [.int (nI xth), .int (nI xw), .int (nI xn), .int (nI xk), .ref bmk, .ref bvl, .ref bln, .ref bfl, .ref bal, .ref bls, .ref bli, .ref bon, .ref bmn, .ref bbt, .ref bwo, .ref bto, .ref bun, .int (nI xnd), .ref bse, .ref bze, .ref bno, .ref bwa, .ref bpa, .int (nI xst), .ref bwd, .int (nI xh), .int (nI xb), .int (nI xt), .int (nI xta), .ref brw, .ref brf, .ref bra])), (bmk, .inl (cA, 14, .inl (fun j => nI (fmk j)))), (bvl, .inl (cA, 14, .inl (fun j => nI (fvl j)))), (bfl, .inl (cA, 14, .inl (fun j => zz_o (ffl j)))), (bal, .inl (cA, 256, .inl (fun j => nI ((zz_up al i v) j)))), (bls, .inl (cA, 256, .inl (fun j => nI ((zz_up sz9 i (zM_ml fmk fvl ffl i 0 xn (li, 0)).2) j)))), (bli, .inl (cA, 3584, .inl (fun j => nI (((zM_ml fmk fvl ffl i 0 xn (li, 0)).1) j))))] H := hP
              have hD : va_D A [(aM0, .inr (6, [.int (nI xth), .int (nI xw), .int (nI xn), .int (nI xk), .ref bmk, .ref bvl, .ref bln, .ref bfl, .ref bal, .ref bls, .ref bli, .ref bon, .ref bmn, .ref bbt, .ref bwo, .ref bto, .ref bun, .int (nI xnd), .ref bse, .ref bze, .ref bno, .ref bwa, .ref bpa, .int (nI xst), .ref bwd, .int (nI xh), .int (nI xb), .int (nI xt), .int (nI xta), .ref brw, .ref brf, .ref bra])), (bmk, .inl (cA, 14, .inl (fun j => nI (fmk j)))), (bvl, .inl (cA, 14, .inl (fun j => nI (fvl j)))), (bfl, .inl (cA, 14, .inl (fun j => zz_o (ffl j)))), (bal, .inl (cA, 256, .inl (fun j => nI ((zz_up al i v) j)))), (bls, .inl (cA, 256, .inl (fun j => nI ((zz_up sz9 i (zM_ml fmk fvl ffl i 0 xn (li, 0)).2) j)))), (bli, .inl (cA, 3584, .inl (fun j => nI (((zM_ml fmk fvl ffl i 0 xn (li, 0)).1) j))))] := hD
              refine lv_iinc (v := nI (i + 1)) (lv' := [(1, .int (nI (i + 1))), (0, .ref aM0), (2, .int (nI v))]) hx hb d_M_makeLists_41 hl (k := 1) rfl (nI_add i 1) (by decide) rfl (fun ls hl => ?_)
              refine lv_goto (tgt := 2) hx hb d_M_makeLists_44 (by decide) ?_
              exact ih_lp (i + 1) ((zM_ml fmk fvl ffl i 0 xn (li, 0)).1) (zz_up sz9 i (zM_ml fmk fvl ffl i 0 xn (li, 0)).2) (zz_up al i v) (by omega) mb.1 (zz_up_le hsb mb.2) (by rw [← hinv, zM_lists_s (w := i) (m := 1 * 2 ^ xw) (by omega)]; unfold zM_one; rw [hv9]) (by omega) H locs hP hD hS ls (lv_sub hl [1, 0] rfl)
            · rw [zz_b0] at c25
              refine lv_iinc (v := nI (v + 1)) (lv' := [(2, .int (nI (v + 1))), (0, .ref aM0), (1, .int (nI i))]) hx hb d_M_makeLists_28 hl (k := 2) rfl (nI_add v 1) (by decide) rfl (fun ls hl => ?_)
              refine lv_goto (tgt := 19) hx hb d_M_makeLists_31 (by decide) ?_
              exact ih_lq (v + 1) (Nat.lt_of_le_of_ne hv (fun q => by rw [q, zM_same_refl] at c25; exact absurd c25 (by decide))) (by rw [← hinw]; exact zz_first_no (by omega) c25) (by omega) ls (lv_sub hl [1, 2, 0] rfl)
        exact lq ((i + 1) + 1) 0 (by omega) (by rw [Nat.sub_zero]) (Nat.lt_succ_self _) ls (lv_sub hl [1, 2, 0] rfl)
  exact lp ((1 * 2 ^ xw) + 1) 0 fli fls fal (by omega) hlb0 hsb0 (by rw [Nat.sub_zero]) (Nat.lt_succ_self _) s.heap [] hP hD hS ls (lv_sub hl [1, 0] rfl)

set_option maxHeartbeats 4000000 in
set_option maxRecDepth 100000 in
theorem c_M_holds (l : Launch) (D : va_G) (cA : ClassId) (aM0 : Nat) (xth : Nat) (xw : Nat) (xn : Nat) (xk : Nat) (xnd : Nat) (xst : Nat) (xh : Nat) (xb : Nat) (xt : Nat) (xta : Nat) (bmk : Nat) (bvl : Nat) (bln : Nat) (bfl : Nat) (bal : Nat) (bls : Nat) (bli : Nat) (bon : Nat) (bmn : Nat) (bbt : Nat) (bwo : Nat) (bto : Nat) (bun : Nat) (bse : Nat) (bze : Nat) (bno : Nat) (bwa : Nat) (bpa : Nat) (bwd : Nat) (brw : Nat) (brf : Nat) (bra : Nat) (ffl : Nat → Nat) (k : Nat) (f9 : Nat) (hfl : ∀ j, ffl j ≤ 8) (hk : k < 14) (hf9 : f9 < 256) : Met l y_M_holds ws_M_holds ({ frames := 0, cells := 0, slots := 0, locals := 0 }) (va_Pc [.ref aM0, .int (nI k), .int (nI f9)] (zz_pre D vwCl [(cA, .int)] [(aM0, .inr (6, [.int (nI xth), .int (nI xw), .int (nI xn), .int (nI xk), .ref bmk, .ref bvl, .ref bln, .ref bfl, .ref bal, .ref bls, .ref bli, .ref bon, .ref bmn, .ref bbt, .ref bwo, .ref bto, .ref bun, .int (nI xnd), .ref bse, .ref bze, .ref bno, .ref bwa, .ref bpa, .int (nI xst), .ref bwd, .int (nI xh), .int (nI xb), .int (nI xt), .int (nI xta), .ref brw, .ref brf, .ref bra])), (bfl, .inl (cA, 14, .inl (fun j => zz_o (ffl j))))] zz_nx)) (QcRead (nI (zz_b (zE_open ffl f9 k)))) 0 0 (fun _ => False) := by
  refine Met.ofW (cc := b_M_holds) (maxL := 3) (ret := (some .boolean)) (by decide) rfl ?_
  intro p e s m args below meth c s₁ B hml hv
  obtain ⟨rfl, hP, hK, hX⟩ := hv
  have hS : va_S (fun _ => False) s.heap s.heap [] := va_S.rf
  have hx := B.exec
  have hb := B.bytes
  have hr := B.returns
  have hts := atoms_spec (ws := ws_M_holds) B.pre
  have hown : s.vm.findClass "DecodeTestsModel" = some m.cls := findClass_of_methodNamed B.named
  have hlocks := B.notSynchronized
  have hT : ∀ w9 ∈ zz_T, w9.before ([.ref aM0, .int (nI k), .int (nI f9)] : List Value).toArray s = true := fun w9 h => hts w9 (List.mem_cons_of_mem _ h)
  have hl := lv_entry ([.ref aM0, .int (nI k), .int (nI f9)]) (n := 3) (Nat.le_of_ble_eq_true rfl)
  rw [lg_entry_eq]
  generalize (lg_sl ([.ref aM0, .int (nI k), .int (nI f9)]) ++ List.replicate (3 - (lg_sl ([.ref aM0, .int (nI k), .int (nI f9)])).length) Slot.unset).toArray = ls at hl ⊢
  have hl : lv_has ls 3 [(0, .ref aM0), (1, .int (nI k)), (2, .int (nI f9))] := hl
  have b1 := hfl k
  have b2 : f9 / 2 ^ (ffl k - 1) < 256 := Nat.lt_of_le_of_lt (Nat.div_le_self _ _) hf9
  have b3 : f9 / 2 ^ (ffl k - 1) &&& 1 < 256 := zz_and_lt (by decide)
  refine lv_aload_n hx hb d_M_holds_0 rfl (lv_at hl 0 rfl) ?_
  refine va_get (D := D) (ci := 6) (v := .ref bfl) (C := "DecodeTestsModel") (T := F_M) (N := 32) hx hb hT hin_M hown hK hP 0 rfl rfl 7 (by decide) (hT _ q_f_M_19) (fun _ h9 => h9) rfl d_M_holds_1 ?_
  refine lv_iload_n hx hb d_M_holds_4 rfl (lv_at hl 1 rfl) ?_
  refine zz_iald hx hb hK hP 1 0 rfl rfl (j := k) (by omega) (by omega) d_M_holds_5 ?_
  refine zz_top (y := zz_o (ffl k)) rfl ?_
  refine lv_if_lt (tgt := 23) hx hb d_M_holds_6 (by decide) (fun c6 => ?_) (fun c6 => ?_)
  · rw [zz_o_neg (by omega)] at c6
    refine lv_iconst (v := nI 1) hx hb d_M_holds_23 (by decide) ?_
    refine lv_goto (tgt := 28) hx hb d_M_holds_24 (by decide) ?_
    exact W.zret (v := nI 1) (ty := .boolean) hx hb hr rfl (fun t ht _ => zz_rd (by simp_all [zE_open, zz_b]) ht) (fun _ h => by cases h) d_M_holds_28
  · rw [zz_o_neg (by omega)] at c6
    refine lv_iload_n hx hb d_M_holds_9 rfl (lv_at hl 2 rfl) ?_
    refine lv_aload_n hx hb d_M_holds_10 rfl (lv_at hl 0 rfl) ?_
    refine va_get (D := D) (ci := 6) (v := .ref bfl) (C := "DecodeTestsModel") (T := F_M) (N := 32) hx hb hT hin_M hown hK hP 0 rfl rfl 7 (by decide) (hT _ q_f_M_19) (fun _ h9 => h9) rfl d_M_holds_11 ?_
    refine lv_iload_n hx hb d_M_holds_14 rfl (lv_at hl 1 rfl) ?_
    refine zz_iald hx hb hK hP 1 0 rfl rfl (j := k) (by omega) (by omega) d_M_holds_15 ?_
    refine zz_top (y := zz_o (ffl k)) rfl ?_
    refine zz_top (y := nI (ffl k - 1)) (zz_o_p c6) ?_
    refine lv_ishr hx hb d_M_holds_16 ?_
    refine zz_top (y := nI (f9 / 2 ^ (ffl k - 1))) (zz_shr (by omega) (by omega)) ?_
    refine lv_iconst (v := nI 1) hx hb d_M_holds_17 (by decide) ?_
    refine lv_iand hx hb d_M_holds_18 ?_
    refine zz_top (y := nI ((f9 / 2 ^ (ffl k - 1)) &&& 1)) (zz_and (f9 / 2 ^ (ffl k - 1)) 1) ?_
    refine lv_iconst (v := nI 1) hx hb d_M_holds_19 (by decide) ?_
    refine lv_icmp_ne (tgt := 27) hx hb d_M_holds_20 (by decide) (fun c20 => ?_) (fun c20 => ?_)
    · rw [zz_eq (by omega) (by omega)] at c20
      refine lv_iconst (v := nI 0) hx hb d_M_holds_27 (by decide) ?_
      exact W.zret (v := nI 0) (ty := .boolean) hx hb hr rfl (fun t ht _ => zz_rd (by simp_all [zE_open, zz_b]) ht) (fun _ h => by cases h) d_M_holds_28
    · rw [zz_eq (by omega) (by omega)] at c20
      refine lv_iconst (v := nI 1) hx hb d_M_holds_23 (by decide) ?_
      refine lv_goto (tgt := 28) hx hb d_M_holds_24 (by decide) ?_
      exact W.zret (v := nI 1) (ty := .boolean) hx hb hr rfl (fun t ht _ => zz_rd (by simp_all [zE_open, zz_b]) ht) (fun _ h => by cases h) d_M_holds_28

set_option maxHeartbeats 4000000 in
set_option maxRecDepth 100000 in
theorem c_M_answerOf (l : Launch) (D : va_G) (cA : ClassId) (aM0 : Nat) (xth : Nat) (xw : Nat) (xn : Nat) (xk : Nat) (xnd : Nat) (xst : Nat) (xh : Nat) (xb : Nat) (xt : Nat) (xta : Nat) (bmk : Nat) (bvl : Nat) (bln : Nat) (bfl : Nat) (bal : Nat) (bls : Nat) (bli : Nat) (bon : Nat) (bmn : Nat) (bbt : Nat) (bwo : Nat) (bto : Nat) (bun : Nat) (bse : Nat) (bze : Nat) (bno : Nat) (bwa : Nat) (bpa : Nat) (bwd : Nat) (brw : Nat) (brf : Nat) (bra : Nat) (ffl : Nat → Nat) (fls : Nat → Nat) (fli : Nat → Nat) (w : Nat) (f9 : Nat) (hfl : ∀ j, ffl j ≤ 8) (hli : ∀ j, fli j < 14) (hls : ∀ j, fls j ≤ 14) (hw : w < 256) (hf9 : f9 < 256) : Met l y_M_answerOf ws_M_answerOf ({ frames := 1, cells := 0, slots := 0, locals := 22 }) (va_Pc [.ref aM0, .int (nI w), .int (nI f9)] (zz_pre D vwCl [(cA, .int)] [(aM0, .inr (6, [.int (nI xth), .int (nI xw), .int (nI xn), .int (nI xk), .ref bmk, .ref bvl, .ref bln, .ref bfl, .ref bal, .ref bls, .ref bli, .ref bon, .ref bmn, .ref bbt, .ref bwo, .ref bto, .ref bun, .int (nI xnd), .ref bse, .ref bze, .ref bno, .ref bwa, .ref bpa, .int (nI xst), .ref bwd, .int (nI xh), .int (nI xb), .int (nI xt), .int (nI xta), .ref brw, .ref brf, .ref bra])), (bfl, .inl (cA, 14, .inl (fun j => zz_o (ffl j)))), (bls, .inl (cA, 256, .inl (fun j => nI (fls j)))), (bli, .inl (cA, 3584, .inl (fun j => nI (fli j))))] zz_nx)) (QcRead (zz_o (zM_af ffl fli w f9 0 (fls w)))) 0 0 (fun _ => False) := by
  refine Met.ofW (cc := b_M_answerOf) (maxL := 4) (ret := (some .int)) (by decide) rfl ?_
  intro p e s m args below meth c s₁ B hml hv
  obtain ⟨rfl, hP, hK, hX⟩ := hv
  have hS : va_S (fun _ => False) s.heap s.heap [] := va_S.rf
  have hx := B.exec
  have hb := B.bytes
  have hr := B.returns
  have hts := atoms_spec (ws := ws_M_answerOf) B.pre
  have hown : s.vm.findClass "DecodeTestsModel" = some m.cls := findClass_of_methodNamed B.named
  have hlocks := B.notSynchronized
  have hT : ∀ w9 ∈ zz_T, w9.before ([.ref aM0, .int (nI w), .int (nI f9)] : List Value).toArray s = true := fun w9 h => hts w9 (List.mem_cons_of_mem _ h)
  have hl := lv_entry ([.ref aM0, .int (nI w), .int (nI f9)]) (n := 4) (Nat.le_of_ble_eq_true rfl)
  rw [lg_entry_eq]
  generalize (lg_sl ([.ref aM0, .int (nI w), .int (nI f9)]) ++ List.replicate (4 - (lg_sl ([.ref aM0, .int (nI w), .int (nI f9)])).length) Slot.unset).toArray = ls at hl ⊢
  have hl : lv_has ls 4 [(0, .ref aM0), (1, .int (nI w)), (2, .int (nI f9))] := hl
  have b1 := hls w
  refine lv_iconst (v := nI 0) hx hb d_M_answerOf_0 (by decide) ?_
  refine lv_istore_n (lv' := [(3, .int (nI 0)), (0, .ref aM0), (1, .int (nI w)), (2, .int (nI f9))]) hx hb d_M_answerOf_1 rfl hl (by decide) rfl (fun ls hl => ?_)
  have lp : ∀ (fu : Nat) (k : Nat), (k ≤ fls w) → (zM_af ffl fli w f9 k (fls w - k) = zM_af ffl fli w f9 0 (fls w)) → fls w - k < fu → ∀ (ls : Array Slot), lv_has ls 4 [(0, .ref aM0), (1, .int (nI w)), (2, .int (nI f9)), (3, .int (nI k))] → W p l e (headSpec ws_M_answerOf ({ frames := 1, cells := 0, slots := 0, locals := 22 })).room s m ([.ref aM0, .int (nI w), .int (nI f9)] : List Value).toArray below meth c s.heap [] 0 0 (MQ below (QcRead (zz_o (zM_af ffl fli w f9 0 (fls w)))) ([.ref aM0, .int (nI w), .int (nI f9)] : List Value).toArray s 0 0 (fun _ => False)) (F0 m 2 ls []) := by
    intro fu
    induction fu with
    | zero => intro k hi hinv hmu; exact absurd hmu (Nat.not_lt_zero _)
    | succ fu ih_lp =>
      intro k hi hinv hmu ls hl
      refine lv_iload_n hx hb d_M_answerOf_2 rfl (lv_at hl 3 rfl) ?_
      refine lv_aload_n hx hb d_M_answerOf_3 rfl (lv_at hl 0 rfl) ?_
      refine va_get (D := D) (ci := 6) (v := .ref bls) (C := "DecodeTestsModel") (T := F_M) (N := 32) hx hb hT hin_M hown hK hP 0 rfl rfl 9 (by decide) (hT _ q_f_M_25) (fun _ h9 => h9) rfl d_M_answerOf_4 ?_
      refine lv_iload_n hx hb d_M_answerOf_7 rfl (lv_at hl 1 rfl) ?_
      refine zz_iald hx hb hK hP 2 0 rfl rfl (j := w) (by omega) (by omega) d_M_answerOf_8 ?_
      refine zz_top (y := nI (fls w)) rfl ?_
      refine lv_icmp_ge (tgt := 49) hx hb d_M_answerOf_9 (by decide) (fun c9 => ?_) (fun c9 => ?_)
      · rw [zz_le (by omega) (by omega)] at c9
        refine lv_iconst (v := -1) hx hb d_M_answerOf_49 (by decide) ?_
        exact W.iret (v := -1) hx hb hr (fun t ht _ => zz_rd (by rw [← hinv, show fls w - k = 0 by omega]; rfl) ht) (fun _ h => by cases h) d_M_answerOf_50
      · rw [zz_le (by omega) (by omega)] at c9
        refine lv_aload_n hx hb d_M_answerOf_12 rfl (lv_at hl 0 rfl) ?_
        refine lv_aload_n hx hb d_M_answerOf_13 rfl (lv_at hl 0 rfl) ?_
        refine va_get (D := D) (ci := 6) (v := .ref bli) (C := "DecodeTestsModel") (T := F_M) (N := 32) hx hb hT hin_M hown hK hP 0 rfl rfl 10 (by decide) (hT _ q_f_M_28) (fun _ h9 => h9) rfl d_M_answerOf_14 ?_
        refine lv_bipush (v := nI 14) hx hb d_M_answerOf_17 (by decide) ?_
        refine lv_iload_n hx hb d_M_answerOf_19 rfl (lv_at hl 1 rfl) ?_
        refine lv_imul hx hb d_M_answerOf_20 ?_
        refine zz_top (y := nI (14 * w)) (pk_mul 14 w) ?_
        refine lv_iload_n hx hb d_M_answerOf_21 rfl (lv_at hl 3 rfl) ?_
        refine lv_iadd hx hb d_M_answerOf_22 ?_
        refine zz_top (y := nI (14 * w + k)) (nI_add (14 * w) k) ?_
        refine zz_iald hx hb hK hP 3 0 rfl rfl (j := 14 * w + k) (by omega) (by omega) d_M_answerOf_23 ?_
        refine zz_top (y := nI (fli (14 * w + k))) rfl ?_
        refine lv_iload_n hx hb d_M_answerOf_24 rfl (lv_at hl 2 rfl) ?_
        refine zz_rV (As := [.int (nI (fli (14 * w + k))), .int (nI f9)]) (rest := []) (r := nI (zz_b (zE_open ffl f9 (fli (14 * w + k))))) ⟨hx, hb, hml, hown, hts⟩ (c_M_holds l _ _ aM0 xth xw xn xk xnd xst xh xb xt xta bmk bvl bln bfl bal bls bli bon bmn bbt bwo bto bun bse bze bno bwa bpa bwd brw brf bra ffl (fli (14 * w + k)) f9 (hfl) (hli _) (by omega)) (cwV 2 hts g_M_answerOf_155 rfl rfl rfl k_M_holds ⟨show 0 + 1 ≤ 1 by omega, show 8 + (3 + 11) + 0 ≤ 22 by omega⟩) (zz_blind_nx) hK (hP.sub (ws' := [(aM0, .inr (6, [.int (nI xth), .int (nI xw), .int (nI xn), .int (nI xk), .ref bmk, .ref bvl, .ref bln, .ref bfl, .ref bal, .ref bls, .ref bli, .ref bon, .ref bmn, .ref bbt, .ref bwo, .ref bto, .ref bun, .int (nI xnd), .ref bse, .ref bze, .ref bno, .ref bwa, .ref bpa, .int (nI xst), .ref bwd, .int (nI xh), .int (nI xb), .int (nI xt), .int (nI xta), .ref brw, .ref brf, .ref bra])), (bfl, .inl (cA, 14, .inl (fun j => zz_o (ffl j))))]) [0, 1] rfl) (fun _ _ _ => trivial) 6 0 rfl rfl rfl hl.1 rfl (Nat.le_of_ble_eq_true rfl) d_M_answerOf_25 ⟨Nat.zero_le _, Nat.zero_le _⟩ ?_
        refine lv_if_eq (tgt := 43) hx hb d_M_answerOf_28 (by decide) (fun c28 => ?_) (fun c28 => ?_)
        · rw [zz_b0] at c28
          refine lv_iinc (v := nI (k + 1)) (lv' := [(3, .int (nI (k + 1))), (0, .ref aM0), (1, .int (nI w)), (2, .int (nI f9))]) hx hb d_M_answerOf_43 hl (k := 3) rfl (nI_add k 1) (by decide) rfl (fun ls hl => ?_)
          refine lv_goto (tgt := 2) hx hb d_M_answerOf_46 (by decide) ?_
          exact ih_lp (k + 1) (by omega) (by rw [← hinv, show fls w - k = (fls w - (k + 1)) + 1 by omega, zM_af, if_neg (by rw [c28]; decide)]) (by omega) ls (lv_sub hl [1, 2, 3, 0] rfl)
        · rw [zz_bn0] at c28
          refine lv_aload_n hx hb d_M_answerOf_31 rfl (lv_at hl 0 rfl) ?_
          refine va_get (D := D) (ci := 6) (v := .ref bli) (C := "DecodeTestsModel") (T := F_M) (N := 32) hx hb hT hin_M hown hK hP 0 rfl rfl 10 (by decide) (hT _ q_f_M_28) (fun _ h9 => h9) rfl d_M_answerOf_32 ?_
          refine lv_bipush (v := nI 14) hx hb d_M_answerOf_35 (by decide) ?_
          refine lv_iload_n hx hb d_M_answerOf_37 rfl (lv_at hl 1 rfl) ?_
          refine lv_imul hx hb d_M_answerOf_38 ?_
          refine zz_top (y := nI (14 * w)) (pk_mul 14 w) ?_
          refine lv_iload_n hx hb d_M_answerOf_39 rfl (lv_at hl 3 rfl) ?_
          refine lv_iadd hx hb d_M_answerOf_40 ?_
          refine zz_top (y := nI (14 * w + k)) (nI_add (14 * w) k) ?_
          refine zz_iald hx hb hK hP 3 0 rfl rfl (j := 14 * w + k) (by omega) (by omega) d_M_answerOf_41 ?_
          refine zz_top (y := nI (fli (14 * w + k))) rfl ?_
          exact W.iret (v := nI (fli (14 * w + k))) hx hb hr (fun t ht _ => zz_rd (by rw [← hinv, show fls w - k = (fls w - (k + 1)) + 1 by omega, zM_af, if_pos c28]; rfl) ht) (fun _ h => by cases h) d_M_answerOf_42
  exact lp (fls w + 1) 0 (by omega) (by rw [Nat.sub_zero]) (Nat.lt_succ_self _) ls (lv_sub hl [1, 2, 3, 0] rfl)

set_option maxHeartbeats 4000000 in
set_option maxRecDepth 100000 in
theorem c_M_isRight (l : Launch) (D : va_G) (cA : ClassId) (aM0 : Nat) (xth : Nat) (xw : Nat) (xn : Nat) (xk : Nat) (xnd : Nat) (xst : Nat) (xh : Nat) (xb : Nat) (xt : Nat) (xta : Nat) (bmk : Nat) (bvl : Nat) (bln : Nat) (bfl : Nat) (bal : Nat) (bls : Nat) (bli : Nat) (bon : Nat) (bmn : Nat) (bbt : Nat) (bwo : Nat) (bto : Nat) (bun : Nat) (bse : Nat) (bze : Nat) (bno : Nat) (bwa : Nat) (bpa : Nat) (bwd : Nat) (brw : Nat) (brf : Nat) (bra : Nat) (x : Int32) (y : Int32) (sz : Nat) (hW : xw ≤ 8) : Met l y_M_isRight ws_M_isRight ({ frames := 2, cells := 0, slots := 0, locals := 43 }) (va_Pc [.ref aM0, .int x, .int y] (zz_preW D vwCl [(cA, .int)] [(aM0, .inr (6, [.int (nI xth), .int (nI xw), .int (nI xn), .int (nI xk), .ref bmk, .ref bvl, .ref bln, .ref bfl, .ref bal, .ref bls, .ref bli, .ref bon, .ref bmn, .ref bbt, .ref bwo, .ref bto, .ref bun, .int (nI xnd), .ref bse, .ref bze, .ref bno, .ref bwa, .ref bpa, .int (nI xst), .ref bwd, .int (nI xh), .int (nI xb), .int (nI xt), .int (nI xta), .ref brw, .ref brf, .ref bra]))] sz zz_nx)) (va_Qi (fun (z : Int32) (_ : Unit) => z = nI (zz_b (zM_right xw x y))) (fun _ => zz_post D vwCl [(cA, .int)] (va_A [(aM0, .inr (6, [.int (nI xth), .int (nI xw), .int (nI xn), .int (nI xk), .ref bmk, .ref bvl, .ref bln, .ref bfl, .ref bal, .ref bls, .ref bli, .ref bon, .ref bmn, .ref bbt, .ref bwo, .ref bto, .ref bun, .int (nI xnd), .ref bse, .ref bze, .ref bno, .ref bwa, .ref bpa, .int (nI xst), .ref bwd, .int (nI xh), .int (nI xb), .int (nI xt), .int (nI xta), .ref brw, .ref brf, .ref bra]))] sz) [(aM0, .inr (6, [.int (nI (if zM_right xw x y = true then 0 else 1)), .int (nI xw), .int (nI xn), .int (nI xk), .ref bmk, .ref bvl, .ref bln, .ref bfl, .ref bal, .ref bls, .ref bli, .ref bon, .ref bmn, .ref bbt, .ref bwo, .ref bto, .ref bun, .int (nI xnd), .ref bse, .ref bze, .ref bno, .ref bwa, .ref bpa, .int (nI xst), .ref bwd, .int (nI xh), .int (nI xb), .int (nI xt), .int (nI xta), .ref brw, .ref brf, .ref bra]))]) (va_A [(aM0, .inr (6, [.int (nI xth), .int (nI xw), .int (nI xn), .int (nI xk), .ref bmk, .ref bvl, .ref bln, .ref bfl, .ref bal, .ref bls, .ref bli, .ref bon, .ref bmn, .ref bbt, .ref bwo, .ref bto, .ref bun, .int (nI xnd), .ref bse, .ref bze, .ref bno, .ref bwa, .ref bpa, .int (nI xst), .ref bwd, .int (nI xh), .int (nI xb), .int (nI xt), .int (nI xta), .ref brw, .ref brf, .ref bra]))] sz)) 0 0 (va_A [(aM0, .inr (6, [.int (nI xth), .int (nI xw), .int (nI xn), .int (nI xk), .ref bmk, .ref bvl, .ref bln, .ref bfl, .ref bal, .ref bls, .ref bli, .ref bon, .ref bmn, .ref bbt, .ref bwo, .ref bto, .ref bun, .int (nI xnd), .ref bse, .ref bze, .ref bno, .ref bwa, .ref bpa, .int (nI xst), .ref bwd, .int (nI xh), .int (nI xb), .int (nI xt), .int (nI xta), .ref brw, .ref brf, .ref bra]))] sz) := by
  refine Met.ofW (cc := b_M_isRight) (maxL := 3) (ret := (some .boolean)) (by decide) rfl ?_
  intro p e s m args below meth c s₁ B hml hv
  obtain ⟨rfl, hsz, hP, hK, hD0, hX⟩ := hv
  have hx := B.exec
  have hb := B.bytes
  have hr := B.returns
  have hts := atoms_spec (ws := ws_M_isRight) B.pre
  have hown : s.vm.findClass "DecodeTestsModel" = some m.cls := findClass_of_methodNamed B.named
  have hlocks := B.notSynchronized
  have hT : ∀ w9 ∈ zz_T, w9.before ([.ref aM0, .int x, .int y] : List Value).toArray s = true := fun w9 h => hts w9 (List.mem_cons_of_mem _ h)
  subst hsz
  have hD := hD0.self (sz := s.heap.size)
  generalize hAe : va_A [(aM0, .inr (6, [.int (nI xth), .int (nI xw), .int (nI xn), .int (nI xk), .ref bmk, .ref bvl, .ref bln, .ref bfl, .ref bal, .ref bls, .ref bli, .ref bon, .ref bmn, .ref bbt, .ref bwo, .ref bto, .ref bun, .int (nI xnd), .ref bse, .ref bze, .ref bno, .ref bwa, .ref bpa, .int (nI xst), .ref bwd, .int (nI xh), .int (nI xb), .int (nI xt), .int (nI xta), .ref brw, .ref brf, .ref bra]))] s.heap.size = A at hD hX ⊢
  have hA : ∀ q : Nat, s.heap.size ≤ q → A q := fun q h => by rw [← hAe]; exact Or.inr h
  have hS : va_S A s.heap s.heap [] := va_S.rf
  have hl := lv_entry ([.ref aM0, .int x, .int y]) (n := 3) (Nat.le_of_ble_eq_true rfl)
  rw [lg_entry_eq]
  generalize (lg_sl ([.ref aM0, .int x, .int y]) ++ List.replicate (3 - (lg_sl ([.ref aM0, .int x, .int y])).length) Slot.unset).toArray = ls at hl ⊢
  have hl : lv_has ls 3 [(0, .ref aM0), (1, .int x), (2, .int y)] := hl
  refine lv_aload_n hx hb d_M_isRight_0 rfl (lv_at hl 0 rfl) ?_
  refine lv_aload_n hx hb d_M_isRight_1 rfl (lv_at hl 0 rfl) ?_
  refine lv_iload_n hx hb d_M_isRight_2 rfl (lv_at hl 1 rfl) ?_
  refine zz_rV (As := [.int x]) (rest := [.ref aM0]) (r := nI (zz_b (zM_in x (nI 0) (nI (1 * 2 ^ xw - 1))))) ⟨hx, hb, hml, hown, hts⟩ (c_M_isWord l _ _ aM0 xth xw xn xk xnd xst xh xb xt xta bmk bvl bln bfl bal bls bli bon bmn bbt bwo bto bun bse bze bno bwa bpa bwd brw brf bra x (by omega)) (cwV 1 hts g_M_isRight_149 rfl rfl rfl k_M_isWord ⟨show 1 + 1 ≤ 2 by omega, show 8 + (2 + 11) + 22 ≤ 43 by omega⟩) (zz_blind_nx) hK (hP.sub (ws' := [(aM0, .inr (6, [.int (nI xth), .int (nI xw), .int (nI xn), .int (nI xk), .ref bmk, .ref bvl, .ref bln, .ref bfl, .ref bal, .ref bls, .ref bli, .ref bon, .ref bmn, .ref bbt, .ref bwo, .ref bto, .ref bun, .int (nI xnd), .ref bse, .ref bze, .ref bno, .ref bwa, .ref bpa, .int (nI xst), .ref bwd, .int (nI xh), .int (nI xb), .int (nI xt), .int (nI xta), .ref brw, .ref brf, .ref bra]))]) [0] rfl) (fun _ _ _ => trivial) 6 0 rfl rfl rfl hl.1 rfl (Nat.le_of_ble_eq_true rfl) d_M_isRight_3 ⟨Nat.zero_le _, Nat.zero_le _⟩ ?_
  refine lv_if_eq (tgt := 24) hx hb d_M_isRight_6 (by decide) (fun c6 => ?_) (fun c6 => ?_)
  · rw [zz_b0] at c6
    refine lv_iconst (v := nI 1) hx hb d_M_isRight_24 (by decide) ?_
    refine va_put (D := D) (ci := 6) (v := .int (nI 1)) (ty := .int) (C := "DecodeTestsModel") (T := F_M) (N := 32) hx hb hT hin_M ft_M ft_M_ok n_M hown hK hP hD hS 0 rfl rfl 0 (by decide) (hT _ q_f_M_83) (fun _ h9 => h9) rfl (by decide +kernel) rfl rfl (Nat.le_of_ble_eq_true rfl) d_M_isRight_25 (fun H locs hP hD hS => ?_)
    have hP : va_P D vwCl [(aM0, .inr (6, [.int (nI 1), .int (nI xw), .int (nI xn), .int (nI xk), .ref bmk, .ref bvl, .ref bln, .ref bfl, .ref bal, .ref bls, .ref bli, .ref bon, .ref bmn, .ref bbt, .ref bwo, .ref bto, .ref bun, .int (nI xnd), .ref bse, .ref bze, .ref bno, .ref bwa, .ref bpa, .int (nI xst), .ref bwd, .int (nI xh), .int (nI xb), .int (nI xt), .int (nI xta), .ref brw, .ref brf, .ref bra]))] H := hP
    have hD : va_D A [(aM0, .inr (6, [.int (nI 1), .int (nI xw), .int (nI xn), .int (nI xk), .ref bmk, .ref bvl, .ref bln, .ref bfl, .ref bal, .ref bls, .ref bli, .ref bon, .ref bmn, .ref bbt, .ref bwo, .ref bto, .ref bun, .int (nI xnd), .ref bse, .ref bze, .ref bno, .ref bwa, .ref bpa, .int (nI xst), .ref bwd, .int (nI xh), .int (nI xb), .int (nI xt), .int (nI xta), .ref brw, .ref brf, .ref bra]))] := hD
    refine lv_aload_n hx hb d_M_isRight_28 rfl (lv_at hl 0 rfl) ?_
    refine va_get (D := D) (ci := 6) (v := .int (nI 1)) (C := "DecodeTestsModel") (T := F_M) (N := 32) hx hb hT hin_M hown hK hP 0 rfl rfl 0 (by decide) (hT _ q_f_M_83) (fun _ h9 => h9) rfl d_M_isRight_29 ?_
    refine lv_if_ne (tgt := 39) hx hb d_M_isRight_32 (by decide) (fun c32 => ?_) (fun c32 => ?_)
    · rw [zz_eq0 (by omega)] at c32
      refine lv_iconst (v := nI 0) hx hb d_M_isRight_39 (by decide) ?_
      have hP : va_P D vwCl [(aM0, .inr (6, [.int (nI (if zM_right xw x y = true then 0 else 1)), .int (nI xw), .int (nI xn), .int (nI xk), .ref bmk, .ref bvl, .ref bln, .ref bfl, .ref bal, .ref bls, .ref bli, .ref bon, .ref bmn, .ref bbt, .ref bwo, .ref bto, .ref bun, .int (nI xnd), .ref bse, .ref bze, .ref bno, .ref bwa, .ref bpa, .int (nI xst), .ref bwd, .int (nI xh), .int (nI xb), .int (nI xt), .int (nI xta), .ref brw, .ref brf, .ref bra]))] H := by first | (rw [if_pos (by simp_all [zM_right])]; exact hP) | (rw [if_neg (by simp_all [zM_right])]; exact hP)
      have hD : va_D A [(aM0, .inr (6, [.int (nI (if zM_right xw x y = true then 0 else 1)), .int (nI xw), .int (nI xn), .int (nI xk), .ref bmk, .ref bvl, .ref bln, .ref bfl, .ref bal, .ref bls, .ref bli, .ref bon, .ref bmn, .ref bbt, .ref bwo, .ref bto, .ref bun, .int (nI xnd), .ref bse, .ref bze, .ref bno, .ref bwa, .ref bpa, .int (nI xst), .ref bwd, .int (nI xh), .int (nI xb), .int (nI xt), .int (nI xta), .ref brw, .ref brf, .ref bra]))] := by first | (rw [if_pos (by simp_all [zM_right])]; exact hD) | (rw [if_neg (by simp_all [zM_right])]; exact hD)
      exact W.zret (v := nI 0) (ty := .boolean) hx hb hr rfl (fun t ht hW => ⟨⟨_, (), rfl, by simp_all [zM_right, zz_b], by rw [ht]; exact hP, va_K.moved hW.alike hK, hD⟩, hS.F ht⟩) hS.2.2 d_M_isRight_40
    · rw [zz_eq0 (by omega)] at c32
      exact absurd c32 (by decide)
  · rw [zz_bn0] at c6
    refine lv_iload_n hx hb d_M_isRight_9 rfl (lv_at hl 2 rfl) ?_
    refine lv_iconst (v := nI 0) hx hb d_M_isRight_10 (by decide) ?_
    refine lv_sipush (v := nI 255) hx hb d_M_isRight_11 (by decide) ?_
    refine zz_rS (As := [.int y, .int (nI 0), .int (nI 255)]) (rest := [.ref aM0]) (r := nI (zz_b (zM_in y (nI 0) (nI 255)))) ⟨hx, hb, hml, hown, hts⟩ (c_M_within l _ _ y (nI 0) (nI 255)) (va_cwS 3 hts g_M_isRight_86 rfl rfl rfl k_M_within.2 ⟨show 0 + 1 ≤ 2 by omega, show 8 + (3 + 11) + 0 ≤ 43 by omega⟩) (zz_blind_nx) hK (hP.sub (ws' := []) [] rfl) (fun _ _ _ => trivial) rfl hl.1 rfl (Nat.le_of_ble_eq_true rfl) d_M_isRight_14 ⟨Nat.zero_le _, Nat.zero_le _⟩ ?_
    refine lv_if_eq (tgt := 24) hx hb d_M_isRight_17 (by decide) (fun c17 => ?_) (fun c17 => ?_)
    · rw [zz_b0] at c17
      refine lv_iconst (v := nI 1) hx hb d_M_isRight_24 (by decide) ?_
      refine va_put (D := D) (ci := 6) (v := .int (nI 1)) (ty := .int) (C := "DecodeTestsModel") (T := F_M) (N := 32) hx hb hT hin_M ft_M ft_M_ok n_M hown hK hP hD hS 0 rfl rfl 0 (by decide) (hT _ q_f_M_83) (fun _ h9 => h9) rfl (by decide +kernel) rfl rfl (Nat.le_of_ble_eq_true rfl) d_M_isRight_25 (fun H locs hP hD hS => ?_)
      have hP : va_P D vwCl [(aM0, .inr (6, [.int (nI 1), .int (nI xw), .int (nI xn), .int (nI xk), .ref bmk, .ref bvl, .ref bln, .ref bfl, .ref bal, .ref bls, .ref bli, .ref bon, .ref bmn, .ref bbt, .ref bwo, .ref bto, .ref bun, .int (nI xnd), .ref bse, .ref bze, .ref bno, .ref bwa, .ref bpa, .int (nI xst), .ref bwd, .int (nI xh), .int (nI xb), .int (nI xt), .int (nI xta), .ref brw, .ref brf, .ref bra]))] H := hP
      have hD : va_D A [(aM0, .inr (6, [.int (nI 1), .int (nI xw), .int (nI xn), .int (nI xk), .ref bmk, .ref bvl, .ref bln, .ref bfl, .ref bal, .ref bls, .ref bli, .ref bon, .ref bmn, .ref bbt, .ref bwo, .ref bto, .ref bun, .int (nI xnd), .ref bse, .ref bze, .ref bno, .ref bwa, .ref bpa, .int (nI xst), .ref bwd, .int (nI xh), .int (nI xb), .int (nI xt), .int (nI xta), .ref brw, .ref brf, .ref bra]))] := hD
      refine lv_aload_n hx hb d_M_isRight_28 rfl (lv_at hl 0 rfl) ?_
      refine va_get (D := D) (ci := 6) (v := .int (nI 1)) (C := "DecodeTestsModel") (T := F_M) (N := 32) hx hb hT hin_M hown hK hP 0 rfl rfl 0 (by decide) (hT _ q_f_M_83) (fun _ h9 => h9) rfl d_M_isRight_29 ?_
      refine lv_if_ne (tgt := 39) hx hb d_M_isRight_32 (by decide) (fun c32 => ?_) (fun c32 => ?_)
      · rw [zz_eq0 (by omega)] at c32
        refine lv_iconst (v := nI 0) hx hb d_M_isRight_39 (by decide) ?_
        have hP : va_P D vwCl [(aM0, .inr (6, [.int (nI (if zM_right xw x y = true then 0 else 1)), .int (nI xw), .int (nI xn), .int (nI xk), .ref bmk, .ref bvl, .ref bln, .ref bfl, .ref bal, .ref bls, .ref bli, .ref bon, .ref bmn, .ref bbt, .ref bwo, .ref bto, .ref bun, .int (nI xnd), .ref bse, .ref bze, .ref bno, .ref bwa, .ref bpa, .int (nI xst), .ref bwd, .int (nI xh), .int (nI xb), .int (nI xt), .int (nI xta), .ref brw, .ref brf, .ref bra]))] H := by first | (rw [if_pos (by simp_all [zM_right])]; exact hP) | (rw [if_neg (by simp_all [zM_right])]; exact hP)
        have hD : va_D A [(aM0, .inr (6, [.int (nI (if zM_right xw x y = true then 0 else 1)), .int (nI xw), .int (nI xn), .int (nI xk), .ref bmk, .ref bvl, .ref bln, .ref bfl, .ref bal, .ref bls, .ref bli, .ref bon, .ref bmn, .ref bbt, .ref bwo, .ref bto, .ref bun, .int (nI xnd), .ref bse, .ref bze, .ref bno, .ref bwa, .ref bpa, .int (nI xst), .ref bwd, .int (nI xh), .int (nI xb), .int (nI xt), .int (nI xta), .ref brw, .ref brf, .ref bra]))] := by first | (rw [if_pos (by simp_all [zM_right])]; exact hD) | (rw [if_neg (by simp_all [zM_right])]; exact hD)
        exact W.zret (v := nI 0) (ty := .boolean) hx hb hr rfl (fun t ht hW => ⟨⟨_, (), rfl, by simp_all [zM_right, zz_b], by rw [ht]; exact hP, va_K.moved hW.alike hK, hD⟩, hS.F ht⟩) hS.2.2 d_M_isRight_40
      · rw [zz_eq0 (by omega)] at c32
        exact absurd c32 (by decide)
    · rw [zz_bn0] at c17
      refine lv_iconst (v := nI 0) hx hb d_M_isRight_20 (by decide) ?_
      refine lv_goto (tgt := 25) hx hb d_M_isRight_21 (by decide) ?_
      refine va_put (D := D) (ci := 6) (v := .int (nI 0)) (ty := .int) (C := "DecodeTestsModel") (T := F_M) (N := 32) hx hb hT hin_M ft_M ft_M_ok n_M hown hK hP hD hS 0 rfl rfl 0 (by decide) (hT _ q_f_M_83) (fun _ h9 => h9) rfl (by decide +kernel) rfl rfl (Nat.le_of_ble_eq_true rfl) d_M_isRight_25 (fun H locs hP hD hS => ?_)
      have hP : va_P D vwCl [(aM0, .inr (6, [.int (nI 0), .int (nI xw), .int (nI xn), .int (nI xk), .ref bmk, .ref bvl, .ref bln, .ref bfl, .ref bal, .ref bls, .ref bli, .ref bon, .ref bmn, .ref bbt, .ref bwo, .ref bto, .ref bun, .int (nI xnd), .ref bse, .ref bze, .ref bno, .ref bwa, .ref bpa, .int (nI xst), .ref bwd, .int (nI xh), .int (nI xb), .int (nI xt), .int (nI xta), .ref brw, .ref brf, .ref bra]))] H := hP
      have hD : va_D A [(aM0, .inr (6, [.int (nI 0), .int (nI xw), .int (nI xn), .int (nI xk), .ref bmk, .ref bvl, .ref bln, .ref bfl, .ref bal, .ref bls, .ref bli, .ref bon, .ref bmn, .ref bbt, .ref bwo, .ref bto, .ref bun, .int (nI xnd), .ref bse, .ref bze, .ref bno, .ref bwa, .ref bpa, .int (nI xst), .ref bwd, .int (nI xh), .int (nI xb), .int (nI xt), .int (nI xta), .ref brw, .ref brf, .ref bra]))] := hD
      refine lv_aload_n hx hb d_M_isRight_28 rfl (lv_at hl 0 rfl) ?_
      refine va_get (D := D) (ci := 6) (v := .int (nI 0)) (C := "DecodeTestsModel") (T := F_M) (N := 32) hx hb hT hin_M hown hK hP 0 rfl rfl 0 (by decide) (hT _ q_f_M_83) (fun _ h9 => h9) rfl d_M_isRight_29 ?_
      refine lv_if_ne (tgt := 39) hx hb d_M_isRight_32 (by decide) (fun c32 => ?_) (fun c32 => ?_)
      · rw [zz_eq0 (by omega)] at c32
        exact absurd c32 (by decide)
      · rw [zz_eq0 (by omega)] at c32
        refine lv_iconst (v := nI 1) hx hb d_M_isRight_35 (by decide) ?_
        refine lv_goto (tgt := 40) hx hb d_M_isRight_36 (by decide) ?_
        have hP : va_P D vwCl [(aM0, .inr (6, [.int (nI (if zM_right xw x y = true then 0 else 1)), .int (nI xw), .int (nI xn), .int (nI xk), .ref bmk, .ref bvl, .ref bln, .ref bfl, .ref bal, .ref bls, .ref bli, .ref bon, .ref bmn, .ref bbt, .ref bwo, .ref bto, .ref bun, .int (nI xnd), .ref bse, .ref bze, .ref bno, .ref bwa, .ref bpa, .int (nI xst), .ref bwd, .int (nI xh), .int (nI xb), .int (nI xt), .int (nI xta), .ref brw, .ref brf, .ref bra]))] H := by first | (rw [if_pos (by simp_all [zM_right])]; exact hP) | (rw [if_neg (by simp_all [zM_right])]; exact hP)
        have hD : va_D A [(aM0, .inr (6, [.int (nI (if zM_right xw x y = true then 0 else 1)), .int (nI xw), .int (nI xn), .int (nI xk), .ref bmk, .ref bvl, .ref bln, .ref bfl, .ref bal, .ref bls, .ref bli, .ref bon, .ref bmn, .ref bbt, .ref bwo, .ref bto, .ref bun, .int (nI xnd), .ref bse, .ref bze, .ref bno, .ref bwa, .ref bpa, .int (nI xst), .ref bwd, .int (nI xh), .int (nI xb), .int (nI xt), .int (nI xta), .ref brw, .ref brf, .ref bra]))] := by first | (rw [if_pos (by simp_all [zM_right])]; exact hD) | (rw [if_neg (by simp_all [zM_right])]; exact hD)
        exact W.zret (v := nI 1) (ty := .boolean) hx hb hr rfl (fun t ht hW => ⟨⟨_, (), rfl, by simp_all [zM_right, zz_b], by rw [ht]; exact hP, va_K.moved hW.alike hK, hD⟩, hS.F ht⟩) hS.2.2 d_M_isRight_40

set_option maxHeartbeats 4000000 in
set_option maxRecDepth 100000 in
theorem c_M_isIn (l : Launch) (D : va_G) (cA : ClassId) (aM0 : Nat) (xth : Nat) (xw : Nat) (xn : Nat) (xk : Nat) (xnd : Nat) (xst : Nat) (xh : Nat) (xb : Nat) (xt : Nat) (xta : Nat) (bmk : Nat) (bvl : Nat) (bln : Nat) (bfl : Nat) (bal : Nat) (bls : Nat) (bli : Nat) (bon : Nat) (bmn : Nat) (bbt : Nat) (bwo : Nat) (bto : Nat) (bun : Nat) (bse : Nat) (bze : Nat) (bno : Nat) (bwa : Nat) (bpa : Nat) (bwd : Nat) (brw : Nat) (brf : Nat) (bra : Nat) (fmk : Nat → Nat) (fvl : Nat → Nat) (a : Nat) (b : Nat) (hmk : ∀ j, fmk j < 256) (hvl : ∀ j, fvl j < 256) (ha : a < 14) (hb9 : b < 14) : Met l y_M_isIn ws_M_isIn ({ frames := 0, cells := 0, slots := 0, locals := 0 }) (va_Pc [.ref aM0, .int (nI a), .int (nI b)] (zz_pre D vwCl [(cA, .int)] [(aM0, .inr (6, [.int (nI xth), .int (nI xw), .int (nI xn), .int (nI xk), .ref bmk, .ref bvl, .ref bln, .ref bfl, .ref bal, .ref bls, .ref bli, .ref bon, .ref bmn, .ref bbt, .ref bwo, .ref bto, .ref bun, .int (nI xnd), .ref bse, .ref bze, .ref bno, .ref bwa, .ref bpa, .int (nI xst), .ref bwd, .int (nI xh), .int (nI xb), .int (nI xt), .int (nI xta), .ref brw, .ref brf, .ref bra])), (bmk, .inl (cA, 14, .inl (fun j => nI (fmk j)))), (bvl, .inl (cA, 14, .inl (fun j => nI (fvl j))))] zz_nx)) (QcRead (nI (zz_b (zM_isIn fmk fvl a b)))) 0 0 (fun _ => False) := by
  refine Met.ofW (cc := b_M_isIn) (maxL := 3) (ret := (some .boolean)) (by decide) rfl ?_
  intro p e s m args below meth c s₁ B hml hv
  obtain ⟨rfl, hP, hK, hX⟩ := hv
  have hS : va_S (fun _ => False) s.heap s.heap [] := va_S.rf
  have hx := B.exec
  have hb := B.bytes
  have hr := B.returns
  have hts := atoms_spec (ws := ws_M_isIn) B.pre
  have hown : s.vm.findClass "DecodeTestsModel" = some m.cls := findClass_of_methodNamed B.named
  have hlocks := B.notSynchronized
  have hT : ∀ w9 ∈ zz_T, w9.before ([.ref aM0, .int (nI a), .int (nI b)] : List Value).toArray s = true := fun w9 h => hts w9 (List.mem_cons_of_mem _ h)
  have hl := lv_entry ([.ref aM0, .int (nI a), .int (nI b)]) (n := 3) (Nat.le_of_ble_eq_true rfl)
  rw [lg_entry_eq]
  generalize (lg_sl ([.ref aM0, .int (nI a), .int (nI b)]) ++ List.replicate (3 - (lg_sl ([.ref aM0, .int (nI a), .int (nI b)])).length) Slot.unset).toArray = ls at hl ⊢
  have hl : lv_has ls 3 [(0, .ref aM0), (1, .int (nI a)), (2, .int (nI b))] := hl
  have b1 : fmk b &&& (fmk a ^^^ 4294967295) < 256 := zz_and_lt' (hmk b)
  have b2 : fvl a &&& fmk b < 256 := zz_and_lt (hmk b)
  have b3 := hvl b
  refine lv_aload_n hx hb d_M_isIn_0 rfl (lv_at hl 0 rfl) ?_
  refine va_get (D := D) (ci := 6) (v := .ref bmk) (C := "DecodeTestsModel") (T := F_M) (N := 32) hx hb hT hin_M hown hK hP 0 rfl rfl 4 (by decide) (hT _ q_f_M_7) (fun _ h9 => h9) rfl d_M_isIn_1 ?_
  refine lv_iload_n hx hb d_M_isIn_4 rfl (lv_at hl 2 rfl) ?_
  refine zz_iald hx hb hK hP 1 0 rfl rfl (j := b) (by omega) (by omega) d_M_isIn_5 ?_
  refine zz_top (y := nI (fmk b)) rfl ?_
  refine lv_aload_n hx hb d_M_isIn_6 rfl (lv_at hl 0 rfl) ?_
  refine va_get (D := D) (ci := 6) (v := .ref bmk) (C := "DecodeTestsModel") (T := F_M) (N := 32) hx hb hT hin_M hown hK hP 0 rfl rfl 4 (by decide) (hT _ q_f_M_7) (fun _ h9 => h9) rfl d_M_isIn_7 ?_
  refine lv_iload_n hx hb d_M_isIn_10 rfl (lv_at hl 1 rfl) ?_
  refine zz_iald hx hb hK hP 1 0 rfl rfl (j := a) (by omega) (by omega) d_M_isIn_11 ?_
  refine zz_top (y := nI (fmk a)) rfl ?_
  refine lv_iconst (v := -1) hx hb d_M_isIn_12 (by decide) ?_
  refine lv_ixor hx hb d_M_isIn_13 ?_
  refine zz_top (y := nI (fmk a ^^^ 4294967295)) (zz_not _) ?_
  refine lv_iand hx hb d_M_isIn_14 ?_
  refine zz_top (y := nI ((fmk b) &&& (fmk a ^^^ 4294967295))) (zz_and (fmk b) (fmk a ^^^ 4294967295)) ?_
  refine lv_if_ne (tgt := 44) hx hb d_M_isIn_15 (by decide) (fun c15 => ?_) (fun c15 => ?_)
  · rw [zz_eq0 (by omega)] at c15
    refine lv_iconst (v := nI 0) hx hb d_M_isIn_44 (by decide) ?_
    exact W.zret (v := nI 0) (ty := .boolean) hx hb hr rfl (fun t ht _ => zz_rd (by simp_all [zM_isIn, zz_b]) ht) (fun _ h => by cases h) d_M_isIn_45
  · rw [zz_eq0 (by omega)] at c15
    refine lv_aload_n hx hb d_M_isIn_18 rfl (lv_at hl 0 rfl) ?_
    refine va_get (D := D) (ci := 6) (v := .ref bvl) (C := "DecodeTestsModel") (T := F_M) (N := 32) hx hb hT hin_M hown hK hP 0 rfl rfl 5 (by decide) (hT _ q_f_M_13) (fun _ h9 => h9) rfl d_M_isIn_19 ?_
    refine lv_iload_n hx hb d_M_isIn_22 rfl (lv_at hl 1 rfl) ?_
    refine zz_iald hx hb hK hP 2 0 rfl rfl (j := a) (by omega) (by omega) d_M_isIn_23 ?_
    refine zz_top (y := nI (fvl a)) rfl ?_
    refine lv_aload_n hx hb d_M_isIn_24 rfl (lv_at hl 0 rfl) ?_
    refine va_get (D := D) (ci := 6) (v := .ref bmk) (C := "DecodeTestsModel") (T := F_M) (N := 32) hx hb hT hin_M hown hK hP 0 rfl rfl 4 (by decide) (hT _ q_f_M_7) (fun _ h9 => h9) rfl d_M_isIn_25 ?_
    refine lv_iload_n hx hb d_M_isIn_28 rfl (lv_at hl 2 rfl) ?_
    refine zz_iald hx hb hK hP 1 0 rfl rfl (j := b) (by omega) (by omega) d_M_isIn_29 ?_
    refine zz_top (y := nI (fmk b)) rfl ?_
    refine lv_iand hx hb d_M_isIn_30 ?_
    refine zz_top (y := nI ((fvl a) &&& (fmk b))) (zz_and (fvl a) (fmk b)) ?_
    refine lv_aload_n hx hb d_M_isIn_31 rfl (lv_at hl 0 rfl) ?_
    refine va_get (D := D) (ci := 6) (v := .ref bvl) (C := "DecodeTestsModel") (T := F_M) (N := 32) hx hb hT hin_M hown hK hP 0 rfl rfl 5 (by decide) (hT _ q_f_M_13) (fun _ h9 => h9) rfl d_M_isIn_32 ?_
    refine lv_iload_n hx hb d_M_isIn_35 rfl (lv_at hl 2 rfl) ?_
    refine zz_iald hx hb hK hP 2 0 rfl rfl (j := b) (by omega) (by omega) d_M_isIn_36 ?_
    refine zz_top (y := nI (fvl b)) rfl ?_
    refine lv_icmp_ne (tgt := 44) hx hb d_M_isIn_37 (by decide) (fun c37 => ?_) (fun c37 => ?_)
    · rw [zz_eq (by omega) (by omega)] at c37
      refine lv_iconst (v := nI 0) hx hb d_M_isIn_44 (by decide) ?_
      exact W.zret (v := nI 0) (ty := .boolean) hx hb hr rfl (fun t ht _ => zz_rd (by simp_all [zM_isIn, zz_b]) ht) (fun _ h => by cases h) d_M_isIn_45
    · rw [zz_eq (by omega) (by omega)] at c37
      refine lv_iconst (v := nI 1) hx hb d_M_isIn_40 (by decide) ?_
      refine lv_goto (tgt := 45) hx hb d_M_isIn_41 (by decide) ?_
      exact W.zret (v := nI 1) (ty := .boolean) hx hb hr rfl (fun t ht _ => zz_rd (by simp_all [zM_isIn, zz_b]) ht) (fun _ h => by cases h) d_M_isIn_45
