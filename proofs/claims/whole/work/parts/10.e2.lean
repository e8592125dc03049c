set_option maxHeartbeats 4000000 in
set_option maxRecDepth 100000 in
theorem c_R_has (l : Launch) (D : va_G) (cA : ClassId) (aR : Nat) (aRt : Nat) (aRz : Nat) (aRo : Nat) (aRd : Nat) (aRl : Nat) (bw : Nat) (M : Nat) (tb : Nat → Nat) (zr : Nat → Nat) (on : Nat → Nat) (dp : Nat → Nat) (li : Nat → Nat) (rn : Nat) (rl : Nat) (x : Int32) : Met l y_R_has ws_R_has ({ frames := 0, cells := 0, slots := 0, locals := 0 }) (va_Pc [.ref aR, .int x] (zz_pre D vwCl [(cA, .int)] [(aR, .inr (4, [.int (nI bw), .ref aRt, .ref aRz, .ref aRo, .ref aRd, .ref aRl, .int (nI rn), .int (nI rl)])), (aRt, .inl (cA, M, .inl (fun j => zz_o (tb j)))), (aRz, .inl (cA, M, .inl (fun j => zz_o (zr j)))), (aRo, .inl (cA, M, .inl (fun j => zz_o (on j)))), (aRd, .inl (cA, M, .inl (fun j => nI (dp j)))), (aRl, .inl (cA, M, .inl (fun j => nI (li j))))] zz_nx)) (QcRead (nI (zz_b (zR_has x rn)))) 0 0 (fun _ => False) := by
  refine Met.ofW (cc := b_R_has) (maxL := 2) (ret := (some .boolean)) (by decide) rfl ?_
  intro p e s m args below meth c s₁ B hml hv
  obtain ⟨rfl, hP, hK, hX⟩ := hv
  have hS : va_S (fun _ => False) s.heap s.heap [] := va_S.rf
  have hx := B.exec
  have hb := B.bytes
  have hr := B.returns
  have hts := atoms_spec (ws := ws_R_has) B.pre
  have hown : s.vm.findClass "DecodeTests$Tree" = some m.cls := findClass_of_methodNamed B.named
  have hlocks := B.notSynchronized
  have hT : ∀ w9 ∈ zz_T, w9.before ([.ref aR, .int x] : List Value).toArray s = true := fun w9 h => hts w9 (List.mem_cons_of_mem _ h)
  have hl := lv_entry ([.ref aR, .int x]) (n := 2) (Nat.le_of_ble_eq_true rfl)
  rw [lg_entry_eq]
  generalize (lg_sl ([.ref aR, .int x]) ++ List.replicate (2 - (lg_sl ([.ref aR, .int x])).length) Slot.unset).toArray = ls at hl ⊢
  have hl : lv_has ls 2 [(0, .ref aR), (1, .int x)] := hl
  refine lv_iload_n hx hb d_R_has_0 rfl (lv_at hl 1 rfl) ?_
  refine lv_if_lt (tgt := 16) hx hb d_R_has_1 (by decide) (fun c1 => ?_) (fun c1 => ?_)
  · refine lv_iconst (v := nI 0) hx hb d_R_has_16 (by decide) ?_
    exact W.zret (v := nI 0) (ty := .boolean) hx hb hr rfl (fun t ht _ => zz_rd (by simp_all [zR_has, zz_b]) ht) (fun _ h => by cases h) d_R_has_17
  · refine lv_iload_n hx hb d_R_has_4 rfl (lv_at hl 1 rfl) ?_
    refine lv_aload_n hx hb d_R_has_5 rfl (lv_at hl 0 rfl) ?_
    refine va_get (D := D) (ci := 4) (v := .int (nI rn)) (C := "DecodeTests$Tree") (T := F_R) (N := 8) hx hb hT hin_R hown hK hP 0 rfl rfl 6 (by decide) (hT _ q_f_R_31) (fun _ h9 => h9) rfl d_R_has_6 ?_
    refine lv_icmp_ge (tgt := 16) hx hb d_R_has_9 (by decide) (fun c9 => ?_) (fun c9 => ?_)
    · refine lv_iconst (v := nI 0) hx hb d_R_has_16 (by decide) ?_
      exact W.zret (v := nI 0) (ty := .boolean) hx hb hr rfl (fun t ht _ => zz_rd (by simp_all [zR_has, zz_b]) ht) (fun _ h => by cases h) d_R_has_17
    · refine lv_iconst (v := nI 1) hx hb d_R_has_12 (by decide) ?_
      refine lv_goto (tgt := 17) hx hb d_R_has_13 (by decide) ?_
      exact W.zret (v := nI 1) (ty := .boolean) hx hb hr rfl (fun t ht _ => zz_rd (by simp_all [zR_has, zz_b]) ht) (fun _ h => by cases h) d_R_has_17

set_option maxHeartbeats 4000000 in
set_option maxRecDepth 100000 in
theorem c_R_leafFor (l : Launch) (D : va_G) (cA : ClassId) (aR : Nat) (aRt : Nat) (aRz : Nat) (aRo : Nat) (aRd : Nat) (aRl : Nat) (bw : Nat) (M : Nat) (tb : Nat → Nat) (zr : Nat → Nat) (on : Nat → Nat) (dp : Nat → Nat) (li : Nat → Nat) (rn : Nat) (rl : Nat) (w : Nat) (U : Nat → Prop) (hM : M ≤ 511) (hW : bw ≤ 8) (hw : w < 256) (hU : zR_U M tb zr on U) (hU0 : U 0) : Met l y_R_leafFor ws_R_leafFor ({ frames := 1, cells := 0, slots := 0, locals := 22 }) (va_Pc [.ref aR, .int (nI w)] (zz_pre D vwCl [(cA, .int)] [(aR, .inr (4, [.int (nI bw), .ref aRt, .ref aRz, .ref aRo, .ref aRd, .ref aRl, .int (nI rn), .int (nI rl)])), (aRt, .inl (cA, M, .inl (fun j => zz_o (tb j)))), (aRz, .inl (cA, M, .inl (fun j => zz_o (zr j)))), (aRo, .inl (cA, M, .inl (fun j => zz_o (on j)))), (aRd, .inl (cA, M, .inl (fun j => nI (dp j)))), (aRl, .inl (cA, M, .inl (fun j => nI (li j))))] zz_nx)) (QcRead (nI (zR_leaf tb zr on w bw 0))) 0 0 (fun _ => False) := by
  refine Met.ofW (cc := b_R_leafFor) (maxL := 4) (ret := (some .int)) (by decide) rfl ?_
  intro p e s m args below meth c s₁ B hml hv
  obtain ⟨rfl, hP, hK, hX⟩ := hv
  have hS : va_S (fun _ => False) s.heap s.heap [] := va_S.rf
  have hx := B.exec
  have hb := B.bytes
  have hr := B.returns
  have hts := atoms_spec (ws := ws_R_leafFor) B.pre
  have hown : s.vm.findClass "DecodeTests$Tree" = some m.cls := findClass_of_methodNamed B.named
  have hlocks := B.notSynchronized
  have hT : ∀ w9 ∈ zz_T, w9.before ([.ref aR, .int (nI w)] : List Value).toArray s = true := fun w9 h => hts w9 (List.mem_cons_of_mem _ h)
  have hl := lv_entry ([.ref aR, .int (nI w)]) (n := 4) (Nat.le_of_ble_eq_true rfl)
  rw [lg_entry_eq]
  generalize (lg_sl ([.ref aR, .int (nI w)]) ++ List.replicate (4 - (lg_sl ([.ref aR, .int (nI w)])).length) Slot.unset).toArray = ls at hl ⊢
  have hl : lv_has ls 4 [(0, .ref aR), (1, .int (nI w))] := hl
  refine lv_iconst (v := nI 0) hx hb d_R_leafFor_0 (by decide) ?_
  refine lv_istore_n (lv' := [(2, .int (nI 0)), (0, .ref aR), (1, .int (nI w))]) hx hb d_R_leafFor_1 rfl hl (by decide) rfl (fun ls hl => ?_)
  refine lv_iconst (v := nI 0) hx hb d_R_leafFor_2 (by decide) ?_
  refine lv_istore_n (lv' := [(3, .int (nI 0)), (2, .int (nI 0)), (0, .ref aR), (1, .int (nI w))]) hx hb d_R_leafFor_3 rfl hl (by decide) rfl (fun ls hl => ?_)
  have lp : ∀ (fu : Nat) (k : Nat) (i : Nat), (i ≤ bw) → (U k) → (zR_leaf tb zr on w (bw - i) k = zR_leaf tb zr on w bw 0) → bw - i < fu → ∀ (ls : Array Slot), lv_has ls 4 [(0, .ref aR), (1, .int (nI w)), (2, .int (nI k)), (3, .int (nI i))] → W p l e (headSpec ws_R_leafFor ({ frames := 1, cells := 0, slots := 0, locals := 22 })).room s m ([.ref aR, .int (nI w)] : List Value).toArray below meth c s.heap [] 0 0 (MQ below (QcRead (nI (zR_leaf tb zr on w bw 0))) ([.ref aR, .int (nI w)] : List Value).toArray s 0 0 (fun _ => False)) (F0 m 4 ls []) := by
    intro fu
    induction fu with
    | zero => intro k i hi hk hinv hmu; exact absurd hmu (Nat.not_lt_zero _)
    | succ fu ih_lp =>
      intro k i hi hk hinv hmu ls hl
      refine lv_iload_n hx hb d_R_leafFor_4 rfl (lv_at hl 3 rfl) ?_
      refine lv_aload_n hx hb d_R_leafFor_5 rfl (lv_at hl 0 rfl) ?_
      refine va_get (D := D) (ci := 4) (v := .int (nI bw)) (C := "DecodeTests$Tree") (T := F_R) (N := 8) hx hb hT hin_R hown hK hP 0 rfl rfl 0 (by decide) (hT _ q_f_R_9) (fun _ h9 => h9) rfl d_R_leafFor_6 ?_
      refine lv_icmp_ge (tgt := 44) hx hb d_R_leafFor_9 (by decide) (fun c9 => ?_) (fun c9 => ?_)
      · rw [zz_le (by omega) (by omega)] at c9
        refine lv_iload_n hx hb d_R_leafFor_44 rfl (lv_at hl 2 rfl) ?_
        exact W.iret (v := nI k) hx hb hr (fun t ht _ => zz_rd (by rw [← hinv]; first | (rw [show bw - i = 0 by omega]; rfl) | (rw [show bw - i = (bw - (i + 1)) + 1 by omega, zR_leaf, if_pos c19])) ht) (fun _ h => by cases h) d_R_leafFor_45
      · rw [zz_le (by omega) (by omega)] at c9
        obtain ⟨hkM, u1, hu9⟩ := hU k hk
        refine lv_aload_n hx hb d_R_leafFor_12 rfl (lv_at hl 0 rfl) ?_
        refine va_get (D := D) (ci := 4) (v := .ref aRt) (C := "DecodeTests$Tree") (T := F_R) (N := 8) hx hb hT hin_R hown hK hP 0 rfl rfl 1 (by decide) (hT _ q_f_R_15) (fun _ h9 => h9) rfl d_R_leafFor_13 ?_
        refine lv_iload_n hx hb d_R_leafFor_16 rfl (lv_at hl 2 rfl) ?_
        refine zz_iald hx hb hK hP 1 0 rfl rfl (j := k) (by omega) (by omega) d_R_leafFor_17 ?_
        refine zz_top (y := zz_o (tb k)) rfl ?_
        refine lv_iconst (v := -1) hx hb d_R_leafFor_18 (by decide) ?_
        refine lv_icmp_eq (tgt := 44) hx hb d_R_leafFor_19 (by decide) (fun c19 => ?_) (fun c19 => ?_)
        · rw [zz_o_none (by omega)] at c19
          refine lv_iload_n hx hb d_R_leafFor_44 rfl (lv_at hl 2 rfl) ?_
          exact W.iret (v := nI k) hx hb hr (fun t ht _ => zz_rd (by rw [← hinv]; first | (rw [show bw - i = 0 by omega]; rfl) | (rw [show bw - i = (bw - (i + 1)) + 1 by omega, zR_leaf, if_pos c19])) ht) (fun _ h => by cases h) d_R_leafFor_45
        · rw [zz_o_none (by omega)] at c19
          obtain ⟨⟨u2, u3⟩, u4, u5⟩ := hu9 c19
          have b2 : w / 2 ^ (tb k - 1) &&& 1 < 2 := zz_and_lt (by decide)
          refine lv_aload_n hx hb d_R_leafFor_22 rfl (lv_at hl 0 rfl) ?_
          refine lv_iload_n hx hb d_R_leafFor_23 rfl (lv_at hl 2 rfl) ?_
          refine lv_iload_n hx hb d_R_leafFor_24 rfl (lv_at hl 1 rfl) ?_
          refine lv_aload_n hx hb d_R_leafFor_25 rfl (lv_at hl 0 rfl) ?_
          refine va_get (D := D) (ci := 4) (v := .ref aRt) (C := "DecodeTests$Tree") (T := F_R) (N := 8) hx hb hT hin_R hown hK hP 0 rfl rfl 1 (by decide) (hT _ q_f_R_15) (fun _ h9 => h9) rfl d_R_leafFor_26 ?_
          refine lv_iload_n hx hb d_R_leafFor_29 rfl (lv_at hl 2 rfl) ?_
          refine zz_iald hx hb hK hP 1 0 rfl rfl (j := k) (by omega) (by omega) d_R_leafFor_30 ?_
          refine zz_top (y := zz_o (tb k)) rfl ?_
          refine zz_top (y := nI (tb k - 1)) (zz_o_p c19) ?_
          refine lv_ishr hx hb d_R_leafFor_31 ?_
          refine zz_top (y := nI (w / 2 ^ (tb k - 1))) (zz_shr (by omega) (by omega)) ?_
          refine lv_iconst (v := nI 1) hx hb d_R_leafFor_32 (by decide) ?_
          refine lv_iand hx hb d_R_leafFor_33 ?_
          refine zz_top (y := nI ((w / 2 ^ (tb k - 1)) &&& 1)) (zz_and (w / 2 ^ (tb k - 1)) 1) ?_
          refine zz_rV (As := [.int (nI k), .int (nI ((w / 2 ^ (tb k - 1)) &&& 1))]) (rest := []) (r := zz_o (if ((w / 2 ^ (tb k - 1)) &&& 1) = 0 then zr k else on k)) ⟨hx, hb, hml, hown, hts⟩ (c_R_sideOf l _ _ aR aRt aRz aRo aRd aRl bw M tb zr on dp li rn rl k ((w / 2 ^ (tb k - 1)) &&& 1) (by omega) (by omega) (by omega)) (cwV 2 hts g_R_leafFor_68 rfl rfl rfl k_R_sideOf ⟨show 0 + 1 ≤ 1 by omega, show 8 + (3 + 11) + 0 ≤ 22 by omega⟩) (zz_blind_nx) hK (hP.sub (ws' := [(aR, .inr (4, [.int (nI bw), .ref aRt, .ref aRz, .ref aRo, .ref aRd, .ref aRl, .int (nI rn), .int (nI rl)])), (aRt, .inl (cA, M, .inl (fun j => zz_o (tb j)))), (aRz, .inl (cA, M, .inl (fun j => zz_o (zr j)))), (aRo, .inl (cA, M, .inl (fun j => zz_o (on j)))), (aRd, .inl (cA, M, .inl (fun j => nI (dp j)))), (aRl, .inl (cA, M, .inl (fun j => nI (li j))))]) [0, 1, 2, 3, 4, 5] rfl) (fun _ _ _ => trivial) 4 0 rfl rfl rfl hl.1 rfl (Nat.le_of_ble_eq_true rfl) d_R_leafFor_34 ⟨Nat.zero_le _, Nat.zero_le _⟩ ?_
          refine zz_top (y := nI ((if w / 2 ^ (tb k - 1) &&& 1 = 0 then zr k else on k) - 1)) (zz_o_p (by split; exact u2; exact u4)) ?_
          refine lv_istore_n (lv' := [(2, .int (nI ((if w / 2 ^ (tb k - 1) &&& 1 = 0 then zr k else on k) - 1))), (0, .ref aR), (1, .int (nI w)), (3, .int (nI i))]) hx hb d_R_leafFor_37 rfl hl (by decide) rfl (fun ls hl => ?_)
          refine lv_iinc (v := nI (i + 1)) (lv' := [(3, .int (nI (i + 1))), (2, .int (nI ((if w / 2 ^ (tb k - 1) &&& 1 = 0 then zr k else on k) - 1))), (0, .ref aR), (1, .int (nI w))]) hx hb d_R_leafFor_38 hl (k := 3) rfl (nI_add i 1) (by decide) rfl (fun ls hl => ?_)
          refine lv_goto (tgt := 4) hx hb d_R_leafFor_41 (by decide) ?_
          exact ih_lp ((if w / 2 ^ (tb k - 1) &&& 1 = 0 then zr k else on k) - 1) (i + 1) (by omega) (by split; exact u3; exact u5) (by rw [← hinv, show bw - i = (bw - (i + 1)) + 1 by omega, zR_leaf, if_neg c19]) (by omega) ls (lv_sub hl [2, 3, 1, 0] rfl)
  exact lp (bw + 1) 0 0 (by omega) hU0 rfl (Nat.lt_succ_self _) ls (lv_sub hl [2, 3, 1, 0] rfl)

set_option maxHeartbeats 4000000 in
set_option maxRecDepth 100000 in
theorem c_E_addToLists (l : Launch) (D : va_G) (cA : ClassId) (aE : Nat) (aM : Nat) (aV : Nat) (aL : Nat) (aC : Nat) (aS : Nat) (ww : Nat) (n : Nat) (un : Nat) (mk : Nat → Nat) (vl : Nat → Nat) (ln : Nat → Nat) (cd : Nat → Nat) (lz : Nat → Nat) (k : Nat) (sz : Nat) (hE : zE_ok ww n un mk vl ln cd lz) (hk : k < 14) : Met l y_E_addToLists ws_E_addToLists ({ frames := 1, cells := 0, slots := 0, locals := 22 }) (va_Pc [.ref aE, .int (nI k)] (zz_preW D vwCl [(cA, .int)] [(aE, .inr (1, [.int (nI ww), .ref aM, .ref aV, .ref aL, .ref aC, .ref aS, .int (nI un), .int (nI n)])), (aM, .inl (cA, 14, .inl (fun j => nI (mk j)))), (aV, .inl (cA, 14, .inl (fun j => nI (vl j)))), (aL, .inl (cA, 14, .inl (fun j => nI (ln j)))), (aC, .inl (cA, 14, .inl (fun j => zz_o (cd j)))), (aS, .inl (cA, ww, .inl (fun j => nI (lz j))))] sz zz_nx)) (va_Qv (fun _ : Unit => True) (fun _ => zz_post D vwCl [(cA, .int)] (va_A [(aE, .inr (1, [.int (nI ww), .ref aM, .ref aV, .ref aL, .ref aC, .ref aS, .int (nI un), .int (nI n)])), (aM, .inl (cA, 14, .inl (fun j => nI (mk j)))), (aV, .inl (cA, 14, .inl (fun j => nI (vl j)))), (aL, .inl (cA, 14, .inl (fun j => nI (ln j)))), (aC, .inl (cA, 14, .inl (fun j => zz_o (cd j)))), (aS, .inl (cA, ww, .inl (fun j => nI (lz j))))] sz) [(aE, .inr (1, [.int (nI ww), .ref aM, .ref aV, .ref aL, .ref aC, .ref aS, .int (nI un), .int (nI n)])), (aM, .inl (cA, 14, .inl (fun j => nI (mk j)))), (aV, .inl (cA, 14, .inl (fun j => nI (vl j)))), (aL, .inl (cA, 14, .inl (fun j => nI (ln j)))), (aC, .inl (cA, 14, .inl (fun j => zz_o (cd j)))), (aS, .inl (cA, ww, .inl (fun j => nI ((zE_lists mk vl un k 0 ww lz) j))))]) (va_A [(aE, .inr (1, [.int (nI ww), .ref aM, .ref aV, .ref aL, .ref aC, .ref aS, .int (nI un), .int (nI n)])), (aM, .inl (cA, 14, .inl (fun j => nI (mk j)))), (aV, .inl (cA, 14, .inl (fun j => nI (vl j)))), (aL, .inl (cA, 14, .inl (fun j => nI (ln j)))), (aC, .inl (cA, 14, .inl (fun j => zz_o (cd j)))), (aS, .inl (cA, ww, .inl (fun j => nI (lz j))))] sz)) 0 0 (va_A [(aE, .inr (1, [.int (nI ww), .ref aM, .ref aV, .ref aL, .ref aC, .ref aS, .int (nI un), .int (nI n)])), (aM, .inl (cA, 14, .inl (fun j => nI (mk j)))), (aV, .inl (cA, 14, .inl (fun j => nI (vl j)))), (aL, .inl (cA, 14, .inl (fun j => nI (ln j)))), (aC, .inl (cA, 14, .inl (fun j => zz_o (cd j)))), (aS, .inl (cA, ww, .inl (fun j => nI (lz j))))] sz) := by
  refine Met.ofW (cc := b_E_addToLists) (maxL := 3) (ret := none) (by decide) rfl ?_
  intro p e s m args below meth c s₁ B hml hv
  obtain ⟨rfl, hsz, hP, hK, hD0, hX⟩ := hv
  have hx := B.exec
  have hb := B.bytes
  have hr := B.returns
  have hts := atoms_spec (ws := ws_E_addToLists) B.pre
  have hown : s.vm.findClass "DecodeTests$Encodings" = some m.cls := findClass_of_methodNamed B.named
  have hlocks := B.notSynchronized
  have hT : ∀ w9 ∈ zz_T, w9.before ([.ref aE, .int (nI k)] : List Value).toArray s = true := fun w9 h => hts w9 (List.mem_cons_of_mem _ h)
  subst hsz
  have hD := hD0.self (sz := s.heap.size)
  generalize hAe : va_A [(aE, .inr (1, [.int (nI ww), .ref aM, .ref aV, .ref aL, .ref aC, .ref aS, .int (nI un), .int (nI n)])), (aM, .inl (cA, 14, .inl (fun j => nI (mk j)))), (aV, .inl (cA, 14, .inl (fun j => nI (vl j)))), (aL, .inl (cA, 14, .inl (fun j => nI (ln j)))), (aC, .inl (cA, 14, .inl (fun j => zz_o (cd j)))), (aS, .inl (cA, ww, .inl (fun j => nI (lz j))))] s.heap.size = A at hD hX ⊢
  have hA : ∀ q : Nat, s.heap.size ≤ q → A q := fun q h => by rw [← hAe]; exact Or.inr h
  have hS : va_S A s.heap s.heap [] := va_S.rf
  have hl := lv_entry ([.ref aE, .int (nI k)]) (n := 3) (Nat.le_of_ble_eq_true rfl)
  rw [lg_entry_eq]
  generalize (lg_sl ([.ref aE, .int (nI k)]) ++ List.replicate (3 - (lg_sl ([.ref aE, .int (nI k)])).length) Slot.unset).toArray = ls at hl ⊢
  have hl : lv_has ls 3 [(0, .ref aE), (1, .int (nI k))] := hl
  obtain ⟨hww, hn, hun, hmk, hvl, hln, hcd, hlz⟩ := id hE
  have p1 := zz_pow14 hk
  refine lv_iconst (v := nI 0) hx hb d_E_addToLists_0 (by decide) ?_
  refine lv_istore_n (lv' := [(2, .int (nI 0)), (0, .ref aE), (1, .int (nI k))]) hx hb d_E_addToLists_1 rfl hl (by decide) rfl (fun ls hl => ?_)
  have lp : ∀ (fu : Nat) (i : Nat) (lw : Nat → Nat), (i ≤ ww) → (∀ j, lw j < 16384) → (zE_lists mk vl un k i (ww - i) lw = zE_lists mk vl un k 0 ww lz) → ww - i < fu → ∀ (H : Heap) (locs : List Loc), va_P D vwCl [(aE, .inr (1, [.int (nI ww), .ref aM, .ref aV, .ref aL, .ref aC, .ref aS, .int (nI un), .int (nI n)])), (aM, .inl (cA, 14, .inl (fun j => nI (mk j)))), (aV, .inl (cA, 14, .inl (fun j => nI (vl j)))), (aL, .inl (cA, 14, .inl (fun j => nI (ln j)))), (aC, .inl (cA, 14, .inl (fun j => zz_o (cd j)))), (aS, .inl (cA, ww, .inl (fun j => nI (lw j))))] H → va_D A [(aE, .inr (1, [.int (nI ww), .ref aM, .ref aV, .ref aL, .ref aC, .ref aS, .int (nI un), .int (nI n)])), (aM, .inl (cA, 14, .inl (fun j => nI (mk j)))), (aV, .inl (cA, 14, .inl (fun j => nI (vl j)))), (aL, .inl (cA, 14, .inl (fun j => nI (ln j)))), (aC, .inl (cA, 14, .inl (fun j => zz_o (cd j)))), (aS, .inl (cA, ww, .inl (fun j => nI (lw j))))] → va_S A s.heap H locs → ∀ (ls : Array Slot), lv_has ls 3 [(0, .ref aE), (1, .int (nI k)), (2, .int (nI i))] → W p l e (headSpec ws_E_addToLists ({ frames := 1, cells := 0, slots := 0, locals := 22 })).room s m ([.ref aE, .int (nI k)] : List Value).toArray below meth c H locs 0 0 (MQ below (va_Qv (fun _ : Unit => True) (fun _ => zz_post D vwCl [(cA, .int)] A [(aE, .inr (1, [.int (nI ww), .ref aM, .ref aV, .ref aL, .ref aC, .ref aS, .int (nI un), .int (nI n)])), (aM, .inl (cA, 14, .inl (fun j => nI (mk j)))), (aV, .inl (cA, 14, .inl (fun j => nI (vl j)))), (aL, .inl (cA, 14, .inl (fun j => nI (ln j)))), (aC, .inl (cA, 14, .inl (fun j => zz_o (cd j)))), (aS, .inl (cA, ww, .inl (fun j => nI ((zE_lists mk vl un k 0 ww lz) j))))]) A) ([.ref aE, .int (nI k)] : List Value).toArray s 0 0 A) (F0 m 2 ls []) := by
    intro fu
    induction fu with
    | zero => intro i lw hi hlw hinv hmu; exact absurd hmu (Nat.not_lt_zero _)
    | succ fu ih_lp =>
      intro i lw hi hlw hinv hmu H locs hP hD hS ls hl
      refine lv_iload_n hx hb d_E_addToLists_2 rfl (lv_at hl 2 rfl) ?_
      refine lv_aload_n hx hb d_E_addToLists_3 rfl (lv_at hl 0 rfl) ?_
      refine va_get (D := D) (ci := 1) (v := .int (nI ww)) (C := "DecodeTests$Encodings") (T := F_E) (N := 8) hx hb hT hin_E hown hK hP 0 rfl rfl 0 (by decide) (hT _ q_f_E_24) (fun _ h9 => h9) rfl d_E_addToLists_4 ?_
      refine lv_icmp_ge (tgt := 51) hx hb d_E_addToLists_7 (by decide) (fun c7 => ?_) (fun c7 => ?_)
      · rw [zz_le (by omega) (by omega)] at c7
        have hP : va_P D vwCl [(aE, .inr (1, [.int (nI ww), .ref aM, .ref aV, .ref aL, .ref aC, .ref aS, .int (nI un), .int (nI n)])), (aM, .inl (cA, 14, .inl (fun j => nI (mk j)))), (aV, .inl (cA, 14, .inl (fun j => nI (vl j)))), (aL, .inl (cA, 14, .inl (fun j => nI (ln j)))), (aC, .inl (cA, 14, .inl (fun j => zz_o (cd j)))), (aS, .inl (cA, ww, .inl (fun j => nI ((zE_lists mk vl un k 0 ww lz) j))))] H := by rw [← hinv, show ww - i = 0 by omega]; exact hP
        have hD : va_D A [(aE, .inr (1, [.int (nI ww), .ref aM, .ref aV, .ref aL, .ref aC, .ref aS, .int (nI un), .int (nI n)])), (aM, .inl (cA, 14, .inl (fun j => nI (mk j)))), (aV, .inl (cA, 14, .inl (fun j => nI (vl j)))), (aL, .inl (cA, 14, .inl (fun j => nI (ln j)))), (aC, .inl (cA, 14, .inl (fun j => zz_o (cd j)))), (aS, .inl (cA, ww, .inl (fun j => nI ((zE_lists mk vl un k 0 ww lz) j))))] := by rw [← hinv, show ww - i = 0 by omega]; exact hD
        exact W.vret hx hb hr (fun t ht hW => ⟨⟨(), rfl, trivial, by rw [ht]; exact hP, va_K.moved hW.alike hK, hD⟩, hS.F ht⟩) hS.2.2 d_E_addToLists_51
      · rw [zz_le (by omega) (by omega)] at c7
        have b1 : lw i &&& un < 16384 := zz_and_lt hun
        have b2 := hlw i
        refine lv_aload_n hx hb d_E_addToLists_10 rfl (lv_at hl 0 rfl) ?_
        refine lv_iload_n hx hb d_E_addToLists_11 rfl (lv_at hl 1 rfl) ?_
        refine lv_iload_n hx hb d_E_addToLists_12 rfl (lv_at hl 2 rfl) ?_
        refine zz_rV (As := [.int (nI k), .int (nI i)]) (rest := []) (r := nI (zz_b (zE_fit mk vl i k))) ⟨hx, hb, hml, hown, hts⟩ (c_E_fits l _ _ aE aM aV aL aC aS ww n un mk vl ln cd lw k i (⟨hww, hn, hun, hmk, hvl, hln, hcd, hlw⟩) (by omega) (by omega)) (cwV 2 hts g_E_addToLists_41 rfl rfl rfl k_E_fits ⟨show 0 + 1 ≤ 1 by omega, show 8 + (3 + 11) + 0 ≤ 22 by omega⟩) (zz_blind_nx) hK (hP.sub (ws' := [(aE, .inr (1, [.int (nI ww), .ref aM, .ref aV, .ref aL, .ref aC, .ref aS, .int (nI un), .int (nI n)])), (aM, .inl (cA, 14, .inl (fun j => nI (mk j)))), (aV, .inl (cA, 14, .inl (fun j => nI (vl j)))), (aL, .inl (cA, 14, .inl (fun j => nI (ln j)))), (aC, .inl (cA, 14, .inl (fun j => zz_o (cd j)))), (aS, .inl (cA, ww, .inl (fun j => nI (lw j))))]) [0, 1, 2, 3, 4, 5] rfl) (fun _ _ _ => trivial) 1 0 rfl rfl rfl hl.1 rfl (Nat.le_of_ble_eq_true rfl) d_E_addToLists_13 ⟨Nat.zero_le _, Nat.zero_le _⟩ ?_
        refine lv_if_eq (tgt := 45) hx hb d_E_addToLists_16 (by decide) (fun c16 => ?_) (fun c16 => ?_)
        · rw [zz_b0] at c16
          refine lv_iinc (v := nI (i + 1)) (lv' := [(2, .int (nI (i + 1))), (0, .ref aE), (1, .int (nI k))]) hx hb d_E_addToLists_45 hl (k := 2) rfl (nI_add i 1) (by decide) rfl (fun ls hl => ?_)
          refine lv_goto (tgt := 2) hx hb d_E_addToLists_48 (by decide) ?_
          exact ih_lp (i + 1) lw (by omega) hlw (by rw [← hinv, zE_lists_s (i := i) (n := ww) (by omega), if_neg (by simp_all)]) (by omega) H locs hP hD hS ls (lv_sub hl [1, 2, 0] rfl)
        · rw [zz_bn0] at c16
          refine lv_aload_n hx hb d_E_addToLists_19 rfl (lv_at hl 0 rfl) ?_
          refine va_get (D := D) (ci := 1) (v := .ref aS) (C := "DecodeTests$Encodings") (T := F_E) (N := 8) hx hb hT hin_E hown hK hP 0 rfl rfl 5 (by decide) (hT _ q_f_E_28) (fun _ h9 => h9) rfl d_E_addToLists_20 ?_
          refine lv_iload_n hx hb d_E_addToLists_23 rfl (lv_at hl 2 rfl) ?_
          refine zz_iald hx hb hK hP 5 0 rfl rfl (j := i) (by omega) (by omega) d_E_addToLists_24 ?_
          refine zz_top (y := nI (lw i)) rfl ?_
          refine lv_aload_n hx hb d_E_addToLists_25 rfl (lv_at hl 0 rfl) ?_
          refine va_get (D := D) (ci := 1) (v := .int (nI un)) (C := "DecodeTests$Encodings") (T := F_E) (N := 8) hx hb hT hin_E hown hK hP 0 rfl rfl 6 (by decide) (hT _ q_f_E_38) (fun _ h9 => h9) rfl d_E_addToLists_26 ?_
          refine lv_iand hx hb d_E_addToLists_29 ?_
          refine zz_top (y := nI ((lw i) &&& un)) (zz_and (lw i) un) ?_
          refine lv_if_ne (tgt := 45) hx hb d_E_addToLists_30 (by decide) (fun c30 => ?_) (fun c30 => ?_)
          · rw [zz_eq0 (by omega)] at c30
            refine lv_iinc (v := nI (i + 1)) (lv' := [(2, .int (nI (i + 1))), (0, .ref aE), (1, .int (nI k))]) hx hb d_E_addToLists_45 hl (k := 2) rfl (nI_add i 1) (by decide) rfl (fun ls hl => ?_)
            refine lv_goto (tgt := 2) hx hb d_E_addToLists_48 (by decide) ?_
            exact ih_lp (i + 1) lw (by omega) hlw (by rw [← hinv, zE_lists_s (i := i) (n := ww) (by omega), if_neg (by simp_all)]) (by omega) H locs hP hD hS ls (lv_sub hl [1, 2, 0] rfl)
          · rw [zz_eq0 (by omega)] at c30
            refine lv_aload_n hx hb d_E_addToLists_33 rfl (lv_at hl 0 rfl) ?_
            refine va_get (D := D) (ci := 1) (v := .ref aS) (C := "DecodeTests$Encodings") (T := F_E) (N := 8) hx hb hT hin_E hown hK hP 0 rfl rfl 5 (by decide) (hT _ q_f_E_28) (fun _ h9 => h9) rfl d_E_addToLists_34 ?_
            refine lv_iload_n hx hb d_E_addToLists_37 rfl (lv_at hl 2 rfl) ?_
            refine lv_dup2_11 hx hb d_E_addToLists_38 rfl rfl ?_
            refine zz_iald hx hb hK hP 5 0 rfl rfl (j := i) (by omega) (by omega) d_E_addToLists_39 ?_
            refine zz_top (y := nI (lw i)) rfl ?_
            refine lv_iconst (v := nI 1) hx hb d_E_addToLists_40 (by decide) ?_
            refine lv_iload_n hx hb d_E_addToLists_41 rfl (lv_at hl 1 rfl) ?_
            refine lv_ishl hx hb d_E_addToLists_42 ?_
            refine zz_top (y := nI (1 * 2 ^ k)) (zz_shl (by omega) (by omega)) ?_
            refine lv_ior hx hb d_E_addToLists_43 ?_
            refine zz_top (y := nI ((lw i) ||| (1 * 2 ^ k))) (zz_or (lw i) (1 * 2 ^ k)) ?_
            refine zz_iastN hx hb hK hP hD hS 5 0 rfl rfl (j := i) (by omega) (by omega) d_E_addToLists_44 (fun H locs hP hD hS => ?_)
            have hP : va_P D vwCl [(aE, .inr (1, [.int (nI ww), .ref aM, .ref aV, .ref aL, .ref aC, .ref aS, .int (nI un), .int (nI n)])), (aM, .inl (cA, 14, .inl (fun j => nI (mk j)))), (aV, .inl (cA, 14, .inl (fun j => nI (vl j)))), (aL, .inl (cA, 14, .inl (fun j => nI (ln j)))), (aC, .inl (cA, 14, .inl (fun j => zz_o (cd j)))), (aS, .inl (cA, ww, .inl (fun j => nI ((zz_up lw i ((lw i) ||| (1 * 2 ^ k))) j))))] H := hP
            have hD : va_D A [(aE, .inr (1, [.int (nI ww), .ref aM, .ref aV, .ref aL, .ref aC, .ref aS, .int (nI un), .int (nI n)])), (aM, .inl (cA, 14, .inl (fun j => nI (mk j)))), (aV, .inl (cA, 14, .inl (fun j => nI (vl j)))), (aL, .inl (cA, 14, .inl (fun j => nI (ln j)))), (aC, .inl (cA, 14, .inl (fun j => zz_o (cd j)))), (aS, .inl (cA, ww, .inl (fun j => nI ((zz_up lw i ((lw i) ||| (1 * 2 ^ k))) j))))] := hD
            refine lv_iinc (v := nI (i + 1)) (lv' := [(2, .int (nI (i + 1))), (0, .ref aE), (1, .int (nI k))]) hx hb d_E_addToLists_45 hl (k := 2) rfl (nI_add i 1) (by decide) rfl (fun ls hl => ?_)
            refine lv_goto (tgt := 2) hx hb d_E_addToLists_48 (by decide) ?_
            exact ih_lp (i + 1) (zz_up lw i ((lw i) ||| (1 * 2 ^ k))) (by omega) (zz_up_lt hlw (zz_or14 (hlw i) p1)) (by rw [← hinv, zE_lists_s (i := i) (n := ww) (by omega), if_pos (by simp_all)]) (by omega) H locs hP hD hS ls (lv_sub hl [1, 2, 0] rfl)
  exact lp (ww + 1) 0 lz (by omega) hlz (by rw [Nat.sub_zero]) (Nat.lt_succ_self _) s.heap [] hP hD hS ls (lv_sub hl [1, 2, 0] rfl)

set_option maxHeartbeats 4000000 in
set_option maxRecDepth 100000 in
theorem c_E_add (l : Launch) (D : va_G) (cA : ClassId) (aE : Nat) (aM : Nat) (aV : Nat) (aL : Nat) (aC : Nat) (aS : Nat) (ww : Nat) (n : Nat) (un : Nat) (mk : Nat → Nat) (vl : Nat → Nat) (ln : Nat → Nat) (cd : Nat → Nat) (lz : Nat → Nat) (m9 : Nat) (v9 : Nat) (l9 : Nat) (f : Nat) (sz : Nat) (hE : zE_ok ww n un mk vl ln cd lz) (hn14 : n < 14) (hm9 : m9 < 256) (hv9 : v9 < 256) (hl9 : l9 < 4) (hf9 : f ≤ 8) : Met l y_E_add ws_E_add ({ frames := 2, cells := 0, slots := 0, locals := 44 }) (va_Pc [.ref aE, .int (nI m9), .int (nI v9), .int (nI l9), .int (zz_o f)] (zz_preW D vwCl [(cA, .int)] [(aE, .inr (1, [.int (nI ww), .ref aM, .ref aV, .ref aL, .ref aC, .ref aS, .int (nI un), .int (nI n)])), (aM, .inl (cA, 14, .inl (fun j => nI (mk j)))), (aV, .inl (cA, 14, .inl (fun j => nI (vl j)))), (aL, .inl (cA, 14, .inl (fun j => nI (ln j)))), (aC, .inl (cA, 14, .inl (fun j => zz_o (cd j)))), (aS, .inl (cA, ww, .inl (fun j => nI (lz j))))] sz zz_nx)) (va_Qi (fun (z : Int32) (_ : Unit) => z = nI n) (fun _ => zz_post D vwCl [(cA, .int)] (va_A [(aE, .inr (1, [.int (nI ww), .ref aM, .ref aV, .ref aL, .ref aC, .ref aS, .int (nI un), .int (nI n)])), (aM, .inl (cA, 14, .inl (fun j => nI (mk j)))), (aV, .inl (cA, 14, .inl (fun j => nI (vl j)))), (aL, .inl (cA, 14, .inl (fun j => nI (ln j)))), (aC, .inl (cA, 14, .inl (fun j => zz_o (cd j)))), (aS, .inl (cA, ww, .inl (fun j => nI (lz j))))] sz) [(aE, .inr (1, [.int (nI ww), .ref aM, .ref aV, .ref aL, .ref aC, .ref aS, .int (nI (if f = 0 then un ||| 1 * 2 ^ n else un)), .int (nI (n + 1))])), (aM, .inl (cA, 14, .inl (fun j => nI ((zz_up mk n m9) j)))), (aV, .inl (cA, 14, .inl (fun j => nI ((zz_up vl n v9) j)))), (aL, .inl (cA, 14, .inl (fun j => nI ((zz_up ln n l9) j)))), (aC, .inl (cA, 14, .inl (fun j => zz_o ((zz_up cd n f) j)))), (aS, .inl (cA, ww, .inl (fun j => nI ((zE_lists (zz_up mk n m9) (zz_up vl n v9) un n 0 ww lz) j))))]) (va_A [(aE, .inr (1, [.int (nI ww), .ref aM, .ref aV, .ref aL, .ref aC, .ref aS, .int (nI un), .int (nI n)])), (aM, .inl (cA, 14, .inl (fun j => nI (mk j)))), (aV, .inl (cA, 14, .inl (fun j => nI (vl j)))), (aL, .inl (cA, 14, .inl (fun j => nI (ln j)))), (aC, .inl (cA, 14, .inl (fun j => zz_o (cd j)))), (aS, .inl (cA, ww, .inl (fun j => nI (lz j))))] sz)) 0 0 (va_A [(aE, .inr (1, [.int (nI ww), .ref aM, .ref aV, .ref aL, .ref aC, .ref aS, .int (nI un), .int (nI n)])), (aM, .inl (cA, 14, .inl (fun j => nI (mk j)))), (aV, .inl (cA, 14, .inl (fun j => nI (vl j)))), (aL, .inl (cA, 14, .inl (fun j => nI (ln j)))), (aC, .inl (cA, 14, .inl (fun j => zz_o (cd j)))), (aS, .inl (cA, ww, .inl (fun j => nI (lz j))))] sz) := by
  refine Met.ofW (cc := b_E_add) (maxL := 6) (ret := (some .int)) (by decide) rfl ?_
  intro p e s m args below meth c s₁ B hml hv
  obtain ⟨rfl, hsz, hP, hK, hD0, hX⟩ := hv
  have hx := B.exec
  have hb := B.bytes
  have hr := B.returns
  have hts := atoms_spec (ws := ws_E_add) B.pre
  have hown : s.vm.findClass "DecodeTests$Encodings" = some m.cls := findClass_of_methodNamed B.named
  have hlocks := B.notSynchronized
  have hT : ∀ w9 ∈ zz_T, w9.before ([.ref aE, .int (nI m9), .int (nI v9), .int (nI l9), .int (zz_o f)] : List Value).toArray s = true := fun w9 h => hts w9 (List.mem_cons_of_mem _ h)
  subst hsz
  have hD := hD0.self (sz := s.heap.size)
  generalize hAe : va_A [(aE, .inr (1, [.int (nI ww), .ref aM, .ref aV, .ref aL, .ref aC, .ref aS, .int (nI un), .int (nI n)])), (aM, .inl (cA, 14, .inl (fun j => nI (mk j)))), (aV, .inl (cA, 14, .inl (fun j => nI (vl j)))), (aL, .inl (cA, 14, .inl (fun j => nI (ln j)))), (aC, .inl (cA, 14, .inl (fun j => zz_o (cd j)))), (aS, .inl (cA, ww, .inl (fun j => nI (lz j))))] s.heap.size = A at hD hX ⊢
  have hA : ∀ q : Nat, s.heap.size ≤ q → A q := fun q h => by rw [← hAe]; exact Or.inr h
  have hS : va_S A s.heap s.heap [] := va_S.rf
  have hl := lv_entry ([.ref aE, .int (nI m9), .int (nI v9), .int (nI l9), .int (zz_o f)]) (n := 6) (Nat.le_of_ble_eq_true rfl)
  rw [lg_entry_eq]
  generalize (lg_sl ([.ref aE, .int (nI m9), .int (nI v9), .int (nI l9), .int (zz_o f)]) ++ List.replicate (6 - (lg_sl ([.ref aE, .int (nI m9), .int (nI v9), .int (nI l9), .int (zz_o f)])).length) Slot.unset).toArray = ls at hl ⊢
  have hl : lv_has ls 6 [(0, .ref aE), (1, .int (nI m9)), (2, .int (nI v9)), (3, .int (nI l9)), (4, .int (zz_o f))] := hl
  obtain ⟨hww, hn, hun, hmk, hvl, hln, hcd, hlz⟩ := id hE
  have p1 := zz_pow14 hn14
  refine lv_aload_n hx hb d_E_add_0 rfl (lv_at hl 0 rfl) ?_
  refine va_get (D := D) (ci := 1) (v := .int (nI n)) (C := "DecodeTests$Encodings") (T := F_E) (N := 8) hx hb hT hin_E hown hK hP 0 rfl rfl 7 (by decide) (hT _ q_f_E_31) (fun _ h9 => h9) rfl d_E_add_1 ?_
  refine lv_istore (lv' := [(5, .int (nI n)), (0, .ref aE), (1, .int (nI m9)), (2, .int (nI v9)), (3, .int (nI l9)), (4, .int (zz_o f))]) hx hb d_E_add_4 hl (by decide) rfl (fun ls hl => ?_)
  refine lv_aload_n hx hb d_E_add_6 rfl (lv_at hl 1 rfl) ?_
  refine va_get (D := D) (ci := 1) (v := .ref aM) (C := "DecodeTests$Encodings") (T := F_E) (N := 8) hx hb hT hin_E hown hK hP 0 rfl rfl 1 (by decide) (hT _ q_f_E_9) (fun _ h9 => h9) rfl d_E_add_7 ?_
  refine lv_iload hx hb d_E_add_10 (lv_at hl 0 rfl) ?_
  refine lv_iload_n hx hb d_E_add_12 rfl (lv_at hl 2 rfl) ?_
  refine zz_iastN hx hb hK hP hD hS 1 0 rfl rfl (j := n) (by omega) (by omega) d_E_add_13 (fun H locs hP hD hS => ?_)
  have hP : va_P D vwCl [(aE, .inr (1, [.int (nI ww), .ref aM, .ref aV, .ref aL, .ref aC, .ref aS, .int (nI un), .int (nI n)])), (aM, .inl (cA, 14, .inl (fun j => nI ((zz_up mk n m9) j)))), (aV, .inl (cA, 14, .inl (fun j => nI (vl j)))), (aL, .inl (cA, 14, .inl (fun j => nI (ln j)))), (aC, .inl (cA, 14, .inl (fun j => zz_o (cd j)))), (aS, .inl (cA, ww, .inl (fun j => nI (lz j))))] H := hP
  have hD : va_D A [(aE, .inr (1, [.int (nI ww), .ref aM, .ref aV, .ref aL, .ref aC, .ref aS, .int (nI un), .int (nI n)])), (aM, .inl (cA, 14, .inl (fun j => nI ((zz_up mk n m9) j)))), (aV, .inl (cA, 14, .inl (fun j => nI (vl j)))), (aL, .inl (cA, 14, .inl (fun j => nI (ln j)))), (aC, .inl (cA, 14, .inl (fun j => zz_o (cd j)))), (aS, .inl (cA, ww, .inl (fun j => nI (lz j))))] := hD
  refine lv_aload_n hx hb d_E_add_14 rfl (lv_at hl 1 rfl) ?_
  refine va_get (D := D) (ci := 1) (v := .ref aV) (C := "DecodeTests$Encodings") (T := F_E) (N := 8) hx hb hT hin_E hown hK hP 0 rfl rfl 2 (by decide) (hT _ q_f_E_15) (fun _ h9 => h9) rfl d_E_add_15 ?_
  refine lv_iload hx hb d_E_add_18 (lv_at hl 0 rfl) ?_
  refine lv_iload_n hx hb d_E_add_20 rfl (lv_at hl 3 rfl) ?_
  refine zz_iastN hx hb hK hP hD hS 2 0 rfl rfl (j := n) (by omega) (by omega) d_E_add_21 (fun H locs hP hD hS => ?_)
  have hP : va_P D vwCl [(aE, .inr (1, [.int (nI ww), .ref aM, .ref aV, .ref aL, .ref aC, .ref aS, .int (nI un), .int (nI n)])), (aM, .inl (cA, 14, .inl (fun j => nI ((zz_up mk n m9) j)))), (aV, .inl (cA, 14, .inl (fun j => nI ((zz_up vl n v9) j)))), (aL, .inl (cA, 14, .inl (fun j => nI (ln j)))), (aC, .inl (cA, 14, .inl (fun j => zz_o (cd j)))), (aS, .inl (cA, ww, .inl (fun j => nI (lz j))))] H := hP
  have hD : va_D A [(aE, .inr (1, [.int (nI ww), .ref aM, .ref aV, .ref aL, .ref aC, .ref aS, .int (nI un), .int (nI n)])), (aM, .inl (cA, 14, .inl (fun j => nI ((zz_up mk n m9) j)))), (aV, .inl (cA, 14, .inl (fun j => nI ((zz_up vl n v9) j)))), (aL, .inl (cA, 14, .inl (fun j => nI (ln j)))), (aC, .inl (cA, 14, .inl (fun j => zz_o (cd j)))), (aS, .inl (cA, ww, .inl (fun j => nI (lz j))))] := hD
  refine lv_aload_n hx hb d_E_add_22 rfl (lv_at hl 1 rfl) ?_
  refine va_get (D := D) (ci := 1) (v := .ref aL) (C := "DecodeTests$Encodings") (T := F_E) (N := 8) hx hb hT hin_E hown hK hP 0 rfl rfl 3 (by decide) (hT _ q_f_E_18) (fun _ h9 => h9) rfl d_E_add_23 ?_
  refine lv_iload hx hb d_E_add_26 (lv_at hl 0 rfl) ?_
  refine lv_iload_n hx hb d_E_add_28 rfl (lv_at hl 4 rfl) ?_
  refine zz_iastN hx hb hK hP hD hS 3 0 rfl rfl (j := n) (by omega) (by omega) d_E_add_29 (fun H locs hP hD hS => ?_)
  have hP : va_P D vwCl [(aE, .inr (1, [.int (nI ww), .ref aM, .ref aV, .ref aL, .ref aC, .ref aS, .int (nI un), .int (nI n)])), (aM, .inl (cA, 14, .inl (fun j => nI ((zz_up mk n m9) j)))), (aV, .inl (cA, 14, .inl (fun j => nI ((zz_up vl n v9) j)))), (aL, .inl (cA, 14, .inl (fun j => nI ((zz_up ln n l9) j)))), (aC, .inl (cA, 14, .inl (fun j => zz_o (cd j)))), (aS, .inl (cA, ww, .inl (fun j => nI (lz j))))] H := hP
  have hD : va_D A [(aE, .inr (1, [.int (nI ww), .ref aM, .ref aV, .ref aL, .ref aC, .ref aS, .int (nI un), .int (nI n)])), (aM, .inl (cA, 14, .inl (fun j => nI ((zz_up mk n m9) j)))), (aV, .inl (cA, 14, .inl (fun j => nI ((zz_up vl n v9) j)))), (aL, .inl (cA, 14, .inl (fun j => nI ((zz_up ln n l9) j)))), (aC, .inl (cA, 14, .inl (fun j => zz_o (cd j)))), (aS, .inl (cA, ww, .inl (fun j => nI (lz j))))] := hD
  refine lv_aload_n hx hb d_E_add_30 rfl (lv_at hl 1 rfl) ?_
  refine va_get (D := D) (ci := 1) (v := .ref aC) (C := "DecodeTests$Encodings") (T := F_E) (N := 8) hx hb hT hin_E hown hK hP 0 rfl rfl 4 (by decide) (hT _ q_f_E_21) (fun _ h9 => h9) rfl d_E_add_31 ?_
  refine lv_iload hx hb d_E_add_34 (lv_at hl 0 rfl) ?_
  refine lv_iload hx hb d_E_add_36 (lv_at hl 5 rfl) ?_
  refine zz_iastO hx hb hK hP hD hS 4 0 rfl rfl (j := n) (by omega) (by omega) d_E_add_38 (fun H locs hP hD hS => ?_)
  have hP : va_P D vwCl [(aE, .inr (1, [.int (nI ww), .ref aM, .ref aV, .ref aL, .ref aC, .ref aS, .int (nI un), .int (nI n)])), (aM, .inl (cA, 14, .inl (fun j => nI ((zz_up mk n m9) j)))), (aV, .inl (cA, 14, .inl (fun j => nI ((zz_up vl n v9) j)))), (aL, .inl (cA, 14, .inl (fun j => nI ((zz_up ln n l9) j)))), (aC, .inl (cA, 14, .inl (fun j => zz_o ((zz_up cd n f) j)))), (aS, .inl (cA, ww, .inl (fun j => nI (lz j))))] H := hP
  have hD : va_D A [(aE, .inr (1, [.int (nI ww), .ref aM, .ref aV, .ref aL, .ref aC, .ref aS, .int (nI un), .int (nI n)])), (aM, .inl (cA, 14, .inl (fun j => nI ((zz_up mk n m9) j)))), (aV, .inl (cA, 14, .inl (fun j => nI ((zz_up vl n v9) j)))), (aL, .inl (cA, 14, .inl (fun j => nI ((zz_up ln n l9) j)))), (aC, .inl (cA, 14, .inl (fun j => zz_o ((zz_up cd n f) j)))), (aS, .inl (cA, ww, .inl (fun j => nI (lz j))))] := hD
  refine lv_aload_n hx hb d_E_add_39 rfl (lv_at hl 1 rfl) ?_
  refine lv_dup hx hb d_E_add_40 rfl ?_
  refine va_get (D := D) (ci := 1) (v := .int (nI n)) (C := "DecodeTests$Encodings") (T := F_E) (N := 8) hx hb hT hin_E hown hK hP 0 rfl rfl 7 (by decide) (hT _ q_f_E_31) (fun _ h9 => h9) rfl d_E_add_41 ?_
  refine lv_iconst (v := nI 1) hx hb d_E_add_44 (by decide) ?_
  refine lv_iadd hx hb d_E_add_45 ?_
  refine zz_top (y := nI (n + 1)) (nI_add n 1) ?_
  refine va_put (D := D) (ci := 1) (v := .int (nI (n + 1))) (ty := .int) (C := "DecodeTests$Encodings") (T := F_E) (N := 8) hx hb hT hin_E ft_E ft_E_ok n_E hown hK hP hD hS 0 rfl rfl 7 (by decide) (hT _ q_f_E_31) (fun _ h9 => h9) rfl (by decide +kernel) rfl rfl (Nat.le_of_ble_eq_true rfl) d_E_add_46 (fun H locs hP hD hS => ?_)
  have hP : va_P D vwCl [(aE, .inr (1, [.int (nI ww), .ref aM, .ref aV, .ref aL, .ref aC, .ref aS, .int (nI un), .int (nI (n + 1))])), (aM, .inl (cA, 14, .inl (fun j => nI ((zz_up mk n m9) j)))), (aV, .inl (cA, 14, .inl (fun j => nI ((zz_up vl n v9) j)))), (aL, .inl (cA, 14, .inl (fun j => nI ((zz_up ln n l9) j)))), (aC, .inl (cA, 14, .inl (fun j => zz_o ((zz_up cd n f) j)))), (aS, .inl (cA, ww, .inl (fun j => nI (lz j))))] H := hP
  have hD : va_D A [(aE, .inr (1, [.int (nI ww), .ref aM, .ref aV, .ref aL, .ref aC, .ref aS, .int (nI un), .int (nI (n + 1))])), (aM, .inl (cA, 14, .inl (fun j => nI ((zz_up mk n m9) j)))), (aV, .inl (cA, 14, .inl (fun j => nI ((zz_up vl n v9) j)))), (aL, .inl (cA, 14, .inl (fun j => nI ((zz_up ln n l9) j)))), (aC, .inl (cA, 14, .inl (fun j => zz_o ((zz_up cd n f) j)))), (aS, .inl (cA, ww, .inl (fun j => nI (lz j))))] := hD
  refine lv_aload_n hx hb d_E_add_49 rfl (lv_at hl 1 rfl) ?_
  refine lv_iload hx hb d_E_add_50 (lv_at hl 0 rfl) ?_
  refine zz_wV (As := [.int (nI n)]) (rest := []) (wc := [(aE, .inr (1, [.int (nI ww), .ref aM, .ref aV, .ref aL, .ref aC, .ref aS, .int (nI un), .int (nI (n + 1))])), (aM, .inl (cA, 14, .inl (fun j => nI ((zz_up mk n m9) j)))), (aV, .inl (cA, 14, .inl (fun j => nI ((zz_up vl n v9) j)))), (aL, .inl (cA, 14, .inl (fun j => nI ((zz_up ln n l9) j)))), (aC, .inl (cA, 14, .inl (fun j => zz_o ((zz_up cd n f) j)))), (aS, .inl (cA, ww, .inl (fun j => nI (lz j))))]) (wr := []) (w1 := [(aE, .inr (1, [.int (nI ww), .ref aM, .ref aV, .ref aL, .ref aC, .ref aS, .int (nI un), .int (nI (n + 1))])), (aM, .inl (cA, 14, .inl (fun j => nI ((zz_up mk n m9) j)))), (aV, .inl (cA, 14, .inl (fun j => nI ((zz_up vl n v9) j)))), (aL, .inl (cA, 14, .inl (fun j => nI ((zz_up ln n l9) j)))), (aC, .inl (cA, 14, .inl (fun j => zz_o ((zz_up cd n f) j)))), (aS, .inl (cA, ww, .inl (fun j => nI ((zE_lists (zz_up mk n m9) (zz_up vl n v9) un n 0 ww lz) j))))]) ⟨hx, hb, hml, hown, hts⟩ (c_E_addToLists l _ _ aE aM aV aL aC aS ww (n + 1) un (zz_up mk n m9) (zz_up vl n v9) (zz_up ln n l9) (zz_up cd n f) lz n _ (⟨hww, by omega, hun, zz_up_lt hmk hm9, zz_up_lt hvl hv9, zz_up_lt hln hl9, zz_up_le hcd hf9, hlz⟩) (by omega)) (cwV 1 hts g_E_add_34 rfl rfl rfl k_E_addToLists ⟨show 1 + 1 ≤ 2 by omega, show 8 + (3 + 11) + 22 ≤ 44 by omega⟩) (zz_blind_nx) hK hP hD hS hA [0, 1, 2, 3, 4, 5] [] rfl rfl (by decide) (by decide) (by decide) (fun _ _ _ _ => trivial) 1 rfl rfl rfl hl.1 rfl (Nat.le_of_ble_eq_true rfl) d_E_add_52 ⟨Nat.zero_le _, Nat.zero_le _⟩ (fun H locs hP hD hS => ?_)
  have hP : va_P D vwCl [(aE, .inr (1, [.int (nI ww), .ref aM, .ref aV, .ref aL, .ref aC, .ref aS, .int (nI un), .int (nI (n + 1))])), (aM, .inl (cA, 14, .inl (fun j => nI ((zz_up mk n m9) j)))), (aV, .inl (cA, 14, .inl (fun j => nI ((zz_up vl n v9) j)))), (aL, .inl (cA, 14, .inl (fun j => nI ((zz_up ln n l9) j)))), (aC, .inl (cA, 14, .inl (fun j => zz_o ((zz_up cd n f) j)))), (aS, .inl (cA, ww, .inl (fun j => nI ((zE_lists (zz_up mk n m9) (zz_up vl n v9) un n 0 ww lz) j))))] H := hP.sub [0, 1, 2, 3, 4, 5] rfl
  have hD : va_D A [(aE, .inr (1, [.int (nI ww), .ref aM, .ref aV, .ref aL, .ref aC, .ref aS, .int (nI un), .int (nI (n + 1))])), (aM, .inl (cA, 14, .inl (fun j => nI ((zz_up mk n m9) j)))), (aV, .inl (cA, 14, .inl (fun j => nI ((zz_up vl n v9) j)))), (aL, .inl (cA, 14, .inl (fun j => nI ((zz_up ln n l9) j)))), (aC, .inl (cA, 14, .inl (fun j => zz_o ((zz_up cd n f) j)))), (aS, .inl (cA, ww, .inl (fun j => nI ((zE_lists (zz_up mk n m9) (zz_up vl n v9) un n 0 ww lz) j))))] := hD.sub [0, 1, 2, 3, 4, 5] (by decide) rfl
  refine lv_iload hx hb d_E_add_55 (lv_at hl 5 rfl) ?_
  refine lv_iconst (v := -1) hx hb d_E_add_57 (by decide) ?_
  refine lv_icmp_ne (tgt := 74) hx hb d_E_add_58 (by decide) (fun c58 => ?_) (fun c58 => ?_)
  · rw [zz_o_none (by omega)] at c58
    refine lv_iload hx hb d_E_add_74 (lv_at hl 0 rfl) ?_
    have hP : va_P D vwCl [(aE, .inr (1, [.int (nI ww), .ref aM, .ref aV, .ref aL, .ref aC, .ref aS, .int (nI (if f = 0 then un ||| 1 * 2 ^ n else un)), .int (nI (n + 1))])), (aM, .inl (cA, 14, .inl (fun j => nI ((zz_up mk n m9) j)))), (aV, .inl (cA, 14, .inl (fun j => nI ((zz_up vl n v9) j)))), (aL, .inl (cA, 14, .inl (fun j => nI ((zz_up ln n l9) j)))), (aC, .inl (cA, 14, .inl (fun j => zz_o ((zz_up cd n f) j)))), (aS, .inl (cA, ww, .inl (fun j => nI ((zE_lists (zz_up mk n m9) (zz_up vl n v9) un n 0 ww lz) j))))] H := by first | (rw [if_pos c58]; exact hP) | (rw [if_neg c58]; exact hP)
    have hD : va_D A [(aE, .inr (1, [.int (nI ww), .ref aM, .ref aV, .ref aL, .ref aC, .ref aS, .int (nI (if f = 0 then un ||| 1 * 2 ^ n else un)), .int (nI (n + 1))])), (aM, .inl (cA, 14, .inl (fun j => nI ((zz_up mk n m9) j)))), (aV, .inl (cA, 14, .inl (fun j => nI ((zz_up vl n v9) j)))), (aL, .inl (cA, 14, .inl (fun j => nI ((zz_up ln n l9) j)))), (aC, .inl (cA, 14, .inl (fun j => zz_o ((zz_up cd n f) j)))), (aS, .inl (cA, ww, .inl (fun j => nI ((zE_lists (zz_up mk n m9) (zz_up vl n v9) un n 0 ww lz) j))))] := by first | (rw [if_pos c58]; exact hD) | (rw [if_neg c58]; exact hD)
    exact W.iret (v := nI n) hx hb hr (fun t ht hW => ⟨⟨_, (), rfl, rfl, by rw [ht]; exact hP, va_K.moved hW.alike hK, hD⟩, hS.F ht⟩) hS.2.2 d_E_add_76
  · rw [zz_o_none (by omega)] at c58
    refine lv_aload_n hx hb d_E_add_61 rfl (lv_at hl 1 rfl) ?_
    refine lv_dup hx hb d_E_add_62 rfl ?_
    refine va_get (D := D) (ci := 1) (v := .int (nI un)) (C := "DecodeTests$Encodings") (T := F_E) (N := 8) hx hb hT hin_E hown hK hP 0 rfl rfl 6 (by decide) (hT _ q_f_E_38) (fun _ h9 => h9) rfl d_E_add_63 ?_
    refine lv_iconst (v := nI 1) hx hb d_E_add_66 (by decide) ?_
    refine lv_iload hx hb d_E_add_67 (lv_at hl 0 rfl) ?_
    refine lv_ishl hx hb d_E_add_69 ?_
    refine zz_top (y := nI (1 * 2 ^ n)) (zz_shl (by omega) (by omega)) ?_
    refine lv_ior hx hb d_E_add_70 ?_
    refine zz_top (y := nI (un ||| (1 * 2 ^ n))) (zz_or un (1 * 2 ^ n)) ?_
    refine va_put (D := D) (ci := 1) (v := .int (nI (un ||| (1 * 2 ^ n)))) (ty := .int) (C := "DecodeTests$Encodings") (T := F_E) (N := 8) hx hb hT hin_E ft_E ft_E_ok n_E hown hK hP hD hS 0 rfl rfl 6 (by decide) (hT _ q_f_E_38) (fun _ h9 => h9) rfl (by decide +kernel) rfl rfl (Nat.le_of_ble_eq_true rfl) d_E_add_71 (fun H locs hP hD hS => ?_)
    have hP : va_P D vwCl [(aE, .inr (1, [.int (nI ww), .ref aM, .ref aV, .ref aL, .ref aC, .ref aS, .int (nI (un ||| (1 * 2 ^ n))), .int (nI (n + 1))])), (aM, .inl (cA, 14, .inl (fun j => nI ((zz_up mk n m9) j)))), (aV, .inl (cA, 14, .inl (fun j => nI ((zz_up vl n v9) j)))), (aL, .inl (cA, 14, .inl (fun j => nI ((zz_up ln n l9) j)))), (aC, .inl (cA, 14, .inl (fun j => zz_o ((zz_up cd n f) j)))), (aS, .inl (cA, ww, .inl (fun j => nI ((zE_lists (zz_up mk n m9) (zz_up vl n v9) un n 0 ww lz) j))))] H := hP
    have hD : va_D A [(aE, .inr (1, [.int (nI ww), .ref aM, .ref aV, .ref aL, .ref aC, .ref aS, .int (nI (un ||| (1 * 2 ^ n))), .int (nI (n + 1))])), (aM, .inl (cA, 14, .inl (fun j => nI ((zz_up mk n m9) j)))), (aV, .inl (cA, 14, .inl (fun j => nI ((zz_up vl n v9) j)))), (aL, .inl (cA, 14, .inl (fun j => nI ((zz_up ln n l9) j)))), (aC, .inl (cA, 14, .inl (fun j => zz_o ((zz_up cd n f) j)))), (aS, .inl (cA, ww, .inl (fun j => nI ((zE_lists (zz_up mk n m9) (zz_up vl n v9) un n 0 ww lz) j))))] := hD
    refine lv_iload hx hb d_E_add_74 (lv_at hl 0 rfl) ?_
    have hP : va_P D vwCl [(aE, .inr (1, [.int (nI ww), .ref aM, .ref aV, .ref aL, .ref aC, .ref aS, .int (nI (if f = 0 then un ||| 1 * 2 ^ n else un)), .int (nI (n + 1))])), (aM, .inl (cA, 14, .inl (fun j => nI ((zz_up mk n m9) j)))), (aV, .inl (cA, 14, .inl (fun j => nI ((zz_up vl n v9) j)))), (aL, .inl (cA, 14, .inl (fun j => nI ((zz_up ln n l9) j)))), (aC, .inl (cA, 14, .inl (fun j => zz_o ((zz_up cd n f) j)))), (aS, .inl (cA, ww, .inl (fun j => nI ((zE_lists (zz_up mk n m9) (zz_up vl n v9) un n 0 ww lz) j))))] H := by first | (rw [if_pos c58]; exact hP) | (rw [if_neg c58]; exact hP)
    have hD : va_D A [(aE, .inr (1, [.int (nI ww), .ref aM, .ref aV, .ref aL, .ref aC, .ref aS, .int (nI (if f = 0 then un ||| 1 * 2 ^ n else un)), .int (nI (n + 1))])), (aM, .inl (cA, 14, .inl (fun j => nI ((zz_up mk n m9) j)))), (aV, .inl (cA, 14, .inl (fun j => nI ((zz_up vl n v9) j)))), (aL, .inl (cA, 14, .inl (fun j => nI ((zz_up ln n l9) j)))), (aC, .inl (cA, 14, .inl (fun j => zz_o ((zz_up cd n f) j)))), (aS, .inl (cA, ww, .inl (fun j => nI ((zE_lists (zz_up mk n m9) (zz_up vl n v9) un n 0 ww lz) j))))] := by first | (rw [if_pos c58]; exact hD) | (rw [if_neg c58]; exact hD)
    exact W.iret (v := nI n) hx hb hr (fun t ht hW => ⟨⟨_, (), rfl, rfl, by rw [ht]; exact hP, va_K.moved hW.alike hK, hD⟩, hS.F ht⟩) hS.2.2 d_E_add_76
