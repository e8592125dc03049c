set_option maxHeartbeats 4000000 in
set_option maxRecDepth 100000 in
/-- how many encodings -/
theorem c_E_size (l : Launch) (D : va_G) (cA : ClassId) (aE : Nat) (aM : Nat) (aV : Nat) (aL : Nat) (aC : Nat) (aS : Nat) (ww : Nat) (n : Nat) (un : Nat) (mk : Nat → Nat) (vl : Nat → Nat) (ln : Nat → Nat) (cd : Nat → Nat) (lz : Nat → Nat) (hE : zE_ok ww n un mk vl ln cd lz) : Met l y_E_size ws_E_size ({ frames := 0, cells := 0, slots := 0, locals := 0 }) (va_Pc [.ref aE] (zz_pre D vwCl [(cA, .int)] [(aE, .inr (1, [.int (nI ww), .ref aM, .ref aV, .ref aL, .ref aC, .ref aS, .int (nI un), .int (nI n)])), (aM, .inl (cA, 14, .inl (fun j => nI (mk j)))), (aV, .inl (cA, 14, .inl (fun j => nI (vl j)))), (aL, .inl (cA, 14, .inl (fun j => nI (ln j)))), (aC, .inl (cA, 14, .inl (fun j => zz_o (cd j)))), (aS, .inl (cA, ww, .inl (fun j => nI (lz j))))] zz_nx)) (QcRead (nI n)) 0 0 (fun _ => False) := by
  refine Met.ofW (cc := b_E_size) (maxL := 1) (ret := (some .int)) (by decide) rfl ?_
  intro p e s m args below meth c s₁ B hml hv
  obtain ⟨rfl, hP, hK, hX⟩ := hv
  have hS : va_S (fun _ => False) s.heap s.heap [] := va_S.rf
  have hx := B.exec
  have hb := B.bytes
  have hr := B.returns
  have hts := atoms_spec (ws := ws_E_size) B.pre
  have hown : s.vm.findClass "DecodeTests$Encodings" = some m.cls := findClass_of_methodNamed B.named
  have hlocks := B.notSynchronized
  have hT : ∀ w9 ∈ zz_T, w9.before ([.ref aE] : List Value).toArray s = true := fun w9 h => hts w9 (List.mem_cons_of_mem _ h)
  have hl := lv_entry ([.ref aE]) (n := 1) (Nat.le_of_ble_eq_true rfl)
  rw [lg_entry_eq]
  generalize (lg_sl ([.ref aE]) ++ List.replicate (1 - (lg_sl ([.ref aE])).length) Slot.unset).toArray = ls at hl ⊢
  have hl : lv_has ls 1 [(0, .ref aE)] := hl
  obtain ⟨hww, hn, hun, hmk, hvl, hln, hcd, hlz⟩ := id hE
  refine lv_aload_n hx hb d_E_size_0 rfl (lv_at hl 0 rfl) ?_
  refine va_get (D := D) (ci := 1) (v := .int (nI n)) (C := "DecodeTests$Encodings") (T := F_E) (N := 8) hx hb hT hin_E hown hK hP 0 rfl rfl 7 (by decide) (hT _ q_f_E_31) (fun _ h9 => h9) rfl d_E_size_1 ?_
  exact W.iret (v := nI n) hx hb hr (fun t ht _ => zz_rd (rfl) ht) (fun _ h => by cases h) d_E_size_4

set_option maxHeartbeats 4000000 in
set_option maxRecDepth 100000 in
theorem c_E_lengthOf (l : Launch) (D : va_G) (cA : ClassId) (aE : Nat) (aM : Nat) (aV : Nat) (aL : Nat) (aC : Nat) (aS : Nat) (ww : Nat) (n : Nat) (un : Nat) (mk : Nat → Nat) (vl : Nat → Nat) (ln : Nat → Nat) (cd : Nat → Nat) (lz : Nat → Nat) (k : Nat) (hE : zE_ok ww n un mk vl ln cd lz) (hk : k < 14) : Met l y_E_lengthOf ws_E_lengthOf ({ frames := 0, cells := 0, slots := 0, locals := 0 }) (va_Pc [.ref aE, .int (nI k)] (zz_pre D vwCl [(cA, .int)] [(aE, .inr (1, [.int (nI ww), .ref aM, .ref aV, .ref aL, .ref aC, .ref aS, .int (nI un), .int (nI n)])), (aM, .inl (cA, 14, .inl (fun j => nI (mk j)))), (aV, .inl (cA, 14, .inl (fun j => nI (vl j)))), (aL, .inl (cA, 14, .inl (fun j => nI (ln j)))), (aC, .inl (cA, 14, .inl (fun j => zz_o (cd j)))), (aS, .inl (cA, ww, .inl (fun j => nI (lz j))))] zz_nx)) (QcRead (nI (ln k))) 0 0 (fun _ => False) := by
  refine Met.ofW (cc := b_E_lengthOf) (maxL := 2) (ret := (some .int)) (by decide) rfl ?_
  intro p e s m args below meth c s₁ B hml hv
  obtain ⟨rfl, hP, hK, hX⟩ := hv
  have hS : va_S (fun _ => False) s.heap s.heap [] := va_S.rf
  have hx := B.exec
  have hb := B.bytes
  have hr := B.returns
  have hts := atoms_spec (ws := ws_E_lengthOf) B.pre
  have hown : s.vm.findClass "DecodeTests$Encodings" = some m.cls := findClass_of_methodNamed B.named
  have hlocks := B.notSynchronized
  have hT : ∀ w9 ∈ zz_T, w9.before ([.ref aE, .int (nI k)] : List Value).toArray s = true := fun w9 h => hts w9 (List.mem_cons_of_mem _ h)
  have hl := lv_entry ([.ref aE, .int (nI k)]) (n := 2) (Nat.le_of_ble_eq_true rfl)
  rw [lg_entry_eq]
  generalize (lg_sl ([.ref aE, .int (nI k)]) ++ List.replicate (2 - (lg_sl ([.ref aE, .int (nI k)])).length) Slot.unset).toArray = ls at hl ⊢
  have hl : lv_has ls 2 [(0, .ref aE), (1, .int (nI k))] := hl
  obtain ⟨hww, hn, hun, hmk, hvl, hln, hcd, hlz⟩ := id hE
  refine lv_aload_n hx hb d_E_lengthOf_0 rfl (lv_at hl 0 rfl) ?_
  refine va_get (D := D) (ci := 1) (v := .ref aL) (C := "DecodeTests$Encodings") (T := F_E) (N := 8) hx hb hT hin_E hown hK hP 0 rfl rfl 3 (by decide) (hT _ q_f_E_18) (fun _ h9 => h9) rfl d_E_lengthOf_1 ?_
  refine lv_iload_n hx hb d_E_lengthOf_4 rfl (lv_at hl 1 rfl) ?_
  refine zz_iald hx hb hK hP 3 0 rfl rfl (j := k) (by omega) (by omega) d_E_lengthOf_5 ?_
  refine zz_top (y := nI (ln k)) rfl ?_
  exact W.iret (v := nI (ln k)) hx hb hr (fun t ht _ => zz_rd (rfl) ht) (fun _ h => by cases h) d_E_lengthOf_6

set_option maxHeartbeats 4000000 in
set_option maxRecDepth 100000 in
theorem c_E_listFor (l : Launch) (D : va_G) (cA : ClassId) (aE : Nat) (aM : Nat) (aV : Nat) (aL : Nat) (aC : Nat) (aS : Nat) (ww : Nat) (n : Nat) (un : Nat) (mk : Nat → Nat) (vl : Nat → Nat) (ln : Nat → Nat) (cd : Nat → Nat) (lz : Nat → Nat) (w : Nat) (hE : zE_ok ww n un mk vl ln cd lz) (hw : w < ww) : Met l y_E_listFor ws_E_listFor ({ frames := 0, cells := 0, slots := 0, locals := 0 }) (va_Pc [.ref aE, .int (nI w)] (zz_pre D vwCl [(cA, .int)] [(aE, .inr (1, [.int (nI ww), .ref aM, .ref aV, .ref aL, .ref aC, .ref aS, .int (nI un), .int (nI n)])), (aM, .inl (cA, 14, .inl (fun j => nI (mk j)))), (aV, .inl (cA, 14, .inl (fun j => nI (vl j)))), (aL, .inl (cA, 14, .inl (fun j => nI (ln j)))), (aC, .inl (cA, 14, .inl (fun j => zz_o (cd j)))), (aS, .inl (cA, ww, .inl (fun j => nI (lz j))))] zz_nx)) (QcRead (nI (lz w))) 0 0 (fun _ => False) := by
  refine Met.ofW (cc := b_E_listFor) (maxL := 2) (ret := (some .int)) (by decide) rfl ?_
  intro p e s m args below meth c s₁ B hml hv
  obtain ⟨rfl, hP, hK, hX⟩ := hv
  have hS : va_S (fun _ => False) s.heap s.heap [] := va_S.rf
  have hx := B.exec
  have hb := B.bytes
  have hr := B.returns
  have hts := atoms_spec (ws := ws_E_listFor) B.pre
  have hown : s.vm.findClass "DecodeTests$Encodings" = some m.cls := findClass_of_methodNamed B.named
  have hlocks := B.notSynchronized
  have hT : ∀ w9 ∈ zz_T, w9.before ([.ref aE, .int (nI w)] : List Value).toArray s = true := fun w9 h => hts w9 (List.mem_cons_of_mem _ h)
  have hl := lv_entry ([.ref aE, .int (nI w)]) (n := 2) (Nat.le_of_ble_eq_true rfl)
  rw [lg_entry_eq]
  generalize (lg_sl ([.ref aE, .int (nI w)]) ++ List.replicate (2 - (lg_sl ([.ref aE, .int (nI w)])).length) Slot.unset).toArray = ls at hl ⊢
  have hl : lv_has ls 2 [(0, .ref aE), (1, .int (nI w))] := hl
  obtain ⟨hww, hn, hun, hmk, hvl, hln, hcd, hlz⟩ := id hE
  refine lv_aload_n hx hb d_E_listFor_0 rfl (lv_at hl 0 rfl) ?_
  refine va_get (D := D) (ci := 1) (v := .ref aS) (C := "DecodeTests$Encodings") (T := F_E) (N := 8) hx hb hT hin_E hown hK hP 0 rfl rfl 5 (by decide) (hT _ q_f_E_28) (fun _ h9 => h9) rfl d_E_listFor_1 ?_
  refine lv_iload_n hx hb d_E_listFor_4 rfl (lv_at hl 1 rfl) ?_
  refine zz_iald hx hb hK hP 5 0 rfl rfl (j := w) (by omega) (by omega) d_E_listFor_5 ?_
  refine zz_top (y := nI (lz w)) rfl ?_
  exact W.iret (v := nI (lz w)) hx hb hr (fun t ht _ => zz_rd (rfl) ht) (fun _ h => by cases h) d_E_listFor_6

set_option maxHeartbeats 4000000 in
set_option maxRecDepth 100000 in
theorem c_E_fits (l : Launch) (D : va_G) (cA : ClassId) (aE : Nat) (aM : Nat) (aV : Nat) (aL : Nat) (aC : Nat) (aS : Nat) (ww : Nat) (n : Nat) (un : Nat) (mk : Nat → Nat) (vl : Nat → Nat) (ln : Nat → Nat) (cd : Nat → Nat) (lz : Nat → Nat) (k : Nat) (w : Nat) (hE : zE_ok ww n un mk vl ln cd lz) (hk : k < 14) (hw : w < 256) : Met l y_E_fits ws_E_fits ({ frames := 0, cells := 0, slots := 0, locals := 0 }) (va_Pc [.ref aE, .int (nI k), .int (nI w)] (zz_pre D vwCl [(cA, .int)] [(aE, .inr (1, [.int (nI ww), .ref aM, .ref aV, .ref aL, .ref aC, .ref aS, .int (nI un), .int (nI n)])), (aM, .inl (cA, 14, .inl (fun j => nI (mk j)))), (aV, .inl (cA, 14, .inl (fun j => nI (vl j)))), (aL, .inl (cA, 14, .inl (fun j => nI (ln j)))), (aC, .inl (cA, 14, .inl (fun j => zz_o (cd j)))), (aS, .inl (cA, ww, .inl (fun j => nI (lz j))))] zz_nx)) (QcRead (nI (zz_b (zE_fit mk vl w k)))) 0 0 (fun _ => False) := by
  refine Met.ofW (cc := b_E_fits) (maxL := 3) (ret := (some .boolean)) (by decide) rfl ?_
  intro p e s m args below meth c s₁ B hml hv
  obtain ⟨rfl, hP, hK, hX⟩ := hv
  have hS : va_S (fun _ => False) s.heap s.heap [] := va_S.rf
  have hx := B.exec
  have hb := B.bytes
  have hr := B.returns
  have hts := atoms_spec (ws := ws_E_fits) B.pre
  have hown : s.vm.findClass "DecodeTests$Encodings" = some m.cls := findClass_of_methodNamed B.named
  have hlocks := B.notSynchronized
  have hT : ∀ w9 ∈ zz_T, w9.before ([.ref aE, .int (nI k), .int (nI w)] : List Value).toArray s = true := fun w9 h => hts w9 (List.mem_cons_of_mem _ h)
  have hl := lv_entry ([.ref aE, .int (nI k), .int (nI w)]) (n := 3) (Nat.le_of_ble_eq_true rfl)
  rw [lg_entry_eq]
  generalize (lg_sl ([.ref aE, .int (nI k), .int (nI w)]) ++ List.replicate (3 - (lg_sl ([.ref aE, .int (nI k), .int (nI w)])).length) Slot.unset).toArray = ls at hl ⊢
  have hl : lv_has ls 3 [(0, .ref aE), (1, .int (nI k)), (2, .int (nI w))] := hl
  obtain ⟨hww, hn, hun, hmk, hvl, hln, hcd, hlz⟩ := id hE
  have b1 : w &&& mk k < 256 := zz_and_lt (hmk k)
  have b2 := hvl k
  refine lv_iload_n hx hb d_E_fits_0 rfl (lv_at hl 2 rfl) ?_
  refine lv_aload_n hx hb d_E_fits_1 rfl (lv_at hl 0 rfl) ?_
  refine va_get (D := D) (ci := 1) (v := .ref aM) (C := "DecodeTests$Encodings") (T := F_E) (N := 8) hx hb hT hin_E hown hK hP 0 rfl rfl 1 (by decide) (hT _ q_f_E_9) (fun _ h9 => h9) rfl d_E_fits_2 ?_
  refine lv_iload_n hx hb d_E_fits_5 rfl (lv_at hl 1 rfl) ?_
  refine zz_iald hx hb hK hP 1 0 rfl rfl (j := k) (by omega) (by omega) d_E_fits_6 ?_
  refine zz_top (y := nI (mk k)) rfl ?_
  refine lv_iand hx hb d_E_fits_7 ?_
  refine zz_top (y := nI (w &&& (mk k))) (zz_and w (mk k)) ?_
  refine lv_aload_n hx hb d_E_fits_8 rfl (lv_at hl 0 rfl) ?_
  refine va_get (D := D) (ci := 1) (v := .ref aV) (C := "DecodeTests$Encodings") (T := F_E) (N := 8) hx hb hT hin_E hown hK hP 0 rfl rfl 2 (by decide) (hT _ q_f_E_15) (fun _ h9 => h9) rfl d_E_fits_9 ?_
  refine lv_iload_n hx hb d_E_fits_12 rfl (lv_at hl 1 rfl) ?_
  refine zz_iald hx hb hK hP 2 0 rfl rfl (j := k) (by omega) (by omega) d_E_fits_13 ?_
  refine zz_top (y := nI (vl k)) rfl ?_
  refine lv_icmp_ne (tgt := 21) hx hb d_E_fits_14 (by decide) (fun c14 => ?_) (fun c14 => ?_)
  · rw [zz_eq (by omega) (by omega)] at c14
    refine lv_iconst (v := nI 0) hx hb d_E_fits_21 (by decide) ?_
    exact W.zret (v := nI 0) (ty := .boolean) hx hb hr rfl (fun t ht _ => zz_rd (by simp [zE_fit, zz_b, c14]) ht) (fun _ h => by cases h) d_E_fits_22
  · rw [zz_eq (by omega) (by omega)] at c14
    refine lv_iconst (v := nI 1) hx hb d_E_fits_17 (by decide) ?_
    refine lv_goto (tgt := 22) hx hb d_E_fits_18 (by decide) ?_
    exact W.zret (v := nI 1) (ty := .boolean) hx hb hr rfl (fun t ht _ => zz_rd (by simp [zE_fit, zz_b, c14]) ht) (fun _ h => by cases h) d_E_fits_22

set_option maxHeartbeats 4000000 in
set_option maxRecDepth 100000 in
theorem c_E_isOpen (l : Launch) (D : va_G) (cA : ClassId) (aE : Nat) (aM : Nat) (aV : Nat) (aL : Nat) (aC : Nat) (aS : Nat) (ww : Nat) (n : Nat) (un : Nat) (mk : Nat → Nat) (vl : Nat → Nat) (ln : Nat → Nat) (cd : Nat → Nat) (lz : Nat → Nat) (k : Nat) (fl : Nat) (hE : zE_ok ww n un mk vl ln cd lz) (hk : k < 14) (hf : fl < 256) : Met l y_E_isOpen ws_E_isOpen ({ frames := 0, cells := 0, slots := 0, locals := 0 }) (va_Pc [.ref aE, .int (nI k), .int (nI fl)] (zz_pre D vwCl [(cA, .int)] [(aE, .inr (1, [.int (nI ww), .ref aM, .ref aV, .ref aL, .ref aC, .ref aS, .int (nI un), .int (nI n)])), (aM, .inl (cA, 14, .inl (fun j => nI (mk j)))), (aV, .inl (cA, 14, .inl (fun j => nI (vl j)))), (aL, .inl (cA, 14, .inl (fun j => nI (ln j)))), (aC, .inl (cA, 14, .inl (fun j => zz_o (cd j)))), (aS, .inl (cA, ww, .inl (fun j => nI (lz j))))] zz_nx)) (QcRead (nI (zz_b (zE_open cd fl k)))) 0 0 (fun _ => False) := by
  refine Met.ofW (cc := b_E_isOpen) (maxL := 4) (ret := (some .boolean)) (by decide) rfl ?_
  intro p e s m args below meth c s₁ B hml hv
  obtain ⟨rfl, hP, hK, hX⟩ := hv
  have hS : va_S (fun _ => False) s.heap s.heap [] := va_S.rf
  have hx := B.exec
  have hb := B.bytes
  have hr := B.returns
  have hts := atoms_spec (ws := ws_E_isOpen) B.pre
  have hown : s.vm.findClass "DecodeTests$Encodings" = some m.cls := findClass_of_methodNamed B.named
  have hlocks := B.notSynchronized
  have hT : ∀ w9 ∈ zz_T, w9.before ([.ref aE, .int (nI k), .int (nI fl)] : List Value).toArray s = true := fun w9 h => hts w9 (List.mem_cons_of_mem _ h)
  have hl := lv_entry ([.ref aE, .int (nI k), .int (nI fl)]) (n := 4) (Nat.le_of_ble_eq_true rfl)
  rw [lg_entry_eq]
  generalize (lg_sl ([.ref aE, .int (nI k), .int (nI fl)]) ++ List.replicate (4 - (lg_sl ([.ref aE, .int (nI k), .int (nI fl)])).length) Slot.unset).toArray = ls at hl ⊢
  have hl : lv_has ls 4 [(0, .ref aE), (1, .int (nI k)), (2, .int (nI fl))] := hl
  obtain ⟨hww, hn, hun, hmk, hvl, hln, hcd, hlz⟩ := id hE
  have b1 := hcd k
  have b2 : fl / 2 ^ (cd k - 1) < 256 := Nat.lt_of_le_of_lt (Nat.div_le_self _ _) hf
  have b3 : fl / 2 ^ (cd k - 1) &&& 1 < 256 := zz_and_lt (by decide)
  refine lv_aload_n hx hb d_E_isOpen_0 rfl (lv_at hl 0 rfl) ?_
  refine va_get (D := D) (ci := 1) (v := .ref aC) (C := "DecodeTests$Encodings") (T := F_E) (N := 8) hx hb hT hin_E hown hK hP 0 rfl rfl 4 (by decide) (hT _ q_f_E_21) (fun _ h9 => h9) rfl d_E_isOpen_1 ?_
  refine lv_iload_n hx hb d_E_isOpen_4 rfl (lv_at hl 1 rfl) ?_
  refine zz_iald hx hb hK hP 4 0 rfl rfl (j := k) (by omega) (by omega) d_E_isOpen_5 ?_
  refine zz_top (y := zz_o (cd k)) rfl ?_
  refine lv_istore_n (lv' := [(3, .int (zz_o (cd k))), (0, .ref aE), (1, .int (nI k)), (2, .int (nI fl))]) hx hb d_E_isOpen_6 rfl hl (by decide) rfl (fun ls hl => ?_)
  refine lv_iload_n hx hb d_E_isOpen_7 rfl (lv_at hl 0 rfl) ?_
  refine lv_iconst (v := -1) hx hb d_E_isOpen_8 (by decide) ?_
  refine lv_icmp_eq (tgt := 21) hx hb d_E_isOpen_9 (by decide) (fun c9 => ?_) (fun c9 => ?_)
  · rw [zz_o_none (by omega)] at c9
    refine lv_iconst (v := nI 1) hx hb d_E_isOpen_21 (by decide) ?_
    refine lv_goto (tgt := 26) hx hb d_E_isOpen_22 (by decide) ?_
    exact W.zret (v := nI 1) (ty := .boolean) hx hb hr rfl (fun t ht _ => zz_rd (by simp_all [zE_open, zz_b]) ht) (fun _ h => by cases h) d_E_isOpen_26
  · rw [zz_o_none (by omega)] at c9
    refine lv_iload_n hx hb d_E_isOpen_12 rfl (lv_at hl 3 rfl) ?_
    refine lv_iload_n hx hb d_E_isOpen_13 rfl (lv_at hl 0 rfl) ?_
    refine zz_top (y := nI (cd k - 1)) (zz_o_p c9) ?_
    refine lv_ishr hx hb d_E_isOpen_14 ?_
    refine zz_top (y := nI (fl / 2 ^ (cd k - 1))) (zz_shr (by omega) (by omega)) ?_
    refine lv_iconst (v := nI 1) hx hb d_E_isOpen_15 (by decide) ?_
    refine lv_iand hx hb d_E_isOpen_16 ?_
    refine zz_top (y := nI ((fl / 2 ^ (cd k - 1)) &&& 1)) (zz_and (fl / 2 ^ (cd k - 1)) 1) ?_
    refine lv_iconst (v := nI 1) hx hb d_E_isOpen_17 (by decide) ?_
    refine lv_icmp_ne (tgt := 25) hx hb d_E_isOpen_18 (by decide) (fun c18 => ?_) (fun c18 => ?_)
    · rw [zz_eq (by omega) (by omega)] at c18
      refine lv_iconst (v := nI 0) hx hb d_E_isOpen_25 (by decide) ?_
      exact W.zret (v := nI 0) (ty := .boolean) hx hb hr rfl (fun t ht _ => zz_rd (by simp_all [zE_open, zz_b]) ht) (fun _ h => by cases h) d_E_isOpen_26
    · rw [zz_eq (by omega) (by omega)] at c18
      refine lv_iconst (v := nI 1) hx hb d_E_isOpen_21 (by decide) ?_
      refine lv_goto (tgt := 26) hx hb d_E_isOpen_22 (by decide) ?_
      exact W.zret (v := nI 1) (ty := .boolean) hx hb hr rfl (fun t ht _ => zz_rd (by simp_all [zE_open, zz_b]) ht) (fun _ h => by cases h) d_E_isOpen_26

set_option maxHeartbeats 4000000 in
set_option maxRecDepth 100000 in
theorem c_E_firstThatFits (l : Launch) (D : va_G) (cA : ClassId) (aE : Nat) (aM : Nat) (aV : Nat) (aL : Nat) (aC : Nat) (aS : Nat) (ww : Nat) (n : Nat) (un : Nat) (mk : Nat → Nat) (vl : Nat → Nat) (ln : Nat → Nat) (cd : Nat → Nat) (lz : Nat → Nat) (w : Nat) (fl : Nat) (hE : zE_ok ww n un mk vl ln cd lz) (hw : w < 256) (hf : fl < 256) : Met l y_E_firstThatFits ws_E_firstThatFits ({ frames := 1, cells := 0, slots := 0, locals := 23 }) (va_Pc [.ref aE, .int (nI w), .int (nI fl)] (zz_pre D vwCl [(cA, .int)] [(aE, .inr (1, [.int (nI ww), .ref aM, .ref aV, .ref aL, .ref aC, .ref aS, .int (nI un), .int (nI n)])), (aM, .inl (cA, 14, .inl (fun j => nI (mk j)))), (aV, .inl (cA, 14, .inl (fun j => nI (vl j)))), (aL, .inl (cA, 14, .inl (fun j => nI (ln j)))), (aC, .inl (cA, 14, .inl (fun j => zz_o (cd j)))), (aS, .inl (cA, ww, .inl (fun j => nI (lz j))))] zz_nx)) (QcRead (zz_o (zE_tried mk vl cd n w fl))) 0 0 (fun _ => False) := by
  refine Met.ofW (cc := b_E_firstThatFits) (maxL := 4) (ret := (some .int)) (by decide) rfl ?_
  intro p e s m args below meth c s₁ B hml hv
  obtain ⟨rfl, hP, hK, hX⟩ := hv
  have hS : va_S (fun _ => False) s.heap s.heap [] := va_S.rf
  have hx := B.exec
  have hb := B.bytes
  have hr := B.returns
  have hts := atoms_spec (ws := ws_E_firstThatFits) B.pre
  have hown : s.vm.findClass "DecodeTests$Encodings" = some m.cls := findClass_of_methodNamed B.named
  have hlocks := B.notSynchronized
  have hT : ∀ w9 ∈ zz_T, w9.before ([.ref aE, .int (nI w), .int (nI fl)] : List Value).toArray s = true := fun w9 h => hts w9 (List.mem_cons_of_mem _ h)
  have hl := lv_entry ([.ref aE, .int (nI w), .int (nI fl)]) (n := 4) (Nat.le_of_ble_eq_true rfl)
  rw [lg_entry_eq]
  generalize (lg_sl ([.ref aE, .int (nI w), .int (nI fl)]) ++ List.replicate (4 - (lg_sl ([.ref aE, .int (nI w), .int (nI fl)])).length) Slot.unset).toArray = ls at hl ⊢
  have hl : lv_has ls 4 [(0, .ref aE), (1, .int (nI w)), (2, .int (nI fl))] := hl
  obtain ⟨hww, hn, hun, hmk, hvl, hln, hcd, hlz⟩ := id hE
  refine lv_iconst (v := nI 0) hx hb d_E_firstThatFits_0 (by decide) ?_
  refine lv_istore_n (lv' := [(3, .int (nI 0)), (0, .ref aE), (1, .int (nI w)), (2, .int (nI fl))]) hx hb d_E_firstThatFits_1 rfl hl (by decide) rfl (fun ls hl => ?_)
  have lp : ∀ (fu : Nat) (i : Nat), (i ≤ n) → (zz_first (fun k => zE_fit mk vl w k && zE_open cd fl k) i (n - i) = zz_first (fun k => zE_fit mk vl w k && zE_open cd fl k) 0 n) → n - i < fu → ∀ (ls : Array Slot), lv_has ls 4 [(0, .ref aE), (1, .int (nI w)), (2, .int (nI fl)), (3, .int (nI i))] → W p l e (headSpec ws_E_firstThatFits ({ frames := 1, cells := 0, slots := 0, locals := 23 })).room s m ([.ref aE, .int (nI w), .int (nI fl)] : List Value).toArray below meth c s.heap [] 0 0 (MQ below (QcRead (zz_o (zE_tried mk vl cd n w fl))) ([.ref aE, .int (nI w), .int (nI fl)] : List Value).toArray s 0 0 (fun _ => False)) (F0 m 2 ls []) := by
    intro fu
    induction fu with
    | zero => intro i hi hinv hmu; exact absurd hmu (Nat.not_lt_zero _)
    | succ fu ih_lp =>
      intro i hi hinv hmu ls hl
      refine lv_iload_n hx hb d_E_firstThatFits_2 rfl (lv_at hl 3 rfl) ?_
      refine lv_aload_n hx hb d_E_firstThatFits_3 rfl (lv_at hl 0 rfl) ?_
      refine va_get (D := D) (ci := 1) (v := .int (nI n)) (C := "DecodeTests$Encodings") (T := F_E) (N := 8) hx hb hT hin_E hown hK hP 0 rfl rfl 7 (by decide) (hT _ q_f_E_31) (fun _ h9 => h9) rfl d_E_firstThatFits_4 ?_
      refine lv_icmp_ge (tgt := 36) hx hb d_E_firstThatFits_7 (by decide) (fun c7 => ?_) (fun c7 => ?_)
      · rw [zz_le (by omega) (by omega)] at c7
        refine lv_iconst (v := -1) hx hb d_E_firstThatFits_36 (by decide) ?_
        exact W.iret (v := -1) hx hb hr (fun t ht _ => zz_rd (by unfold zE_tried; rw [← hinv, zz_first_end (by omega)]; rfl) ht) (fun _ h => by cases h) d_E_firstThatFits_37
      · rw [zz_le (by omega) (by omega)] at c7
        refine lv_aload_n hx hb d_E_firstThatFits_10 rfl (lv_at hl 0 rfl) ?_
        refine lv_iload_n hx hb d_E_firstThatFits_11 rfl (lv_at hl 3 rfl) ?_
        refine lv_iload_n hx hb d_E_firstThatFits_12 rfl (lv_at hl 1 rfl) ?_
        refine zz_rV (As := [.int (nI i), .int (nI w)]) (rest := []) (r := nI (zz_b (zE_fit mk vl w i))) ⟨hx, hb, hml, hown, hts⟩ (c_E_fits l _ _ aE aM aV aL aC aS ww n un mk vl ln cd lz i w (by omega) (by omega) (by omega)) (cwV 2 hts g_E_firstThatFits_41 rfl rfl rfl k_E_fits ⟨show 0 + 1 ≤ 1 by omega, show 8 + (3 + 11) + 0 ≤ 23 by omega⟩) (zz_blind_nx) hK (hP.sub (ws' := [(aE, .inr (1, [.int (nI ww), .ref aM, .ref aV, .ref aL, .ref aC, .ref aS, .int (nI un), .int (nI n)])), (aM, .inl (cA, 14, .inl (fun j => nI (mk j)))), (aV, .inl (cA, 14, .inl (fun j => nI (vl j)))), (aL, .inl (cA, 14, .inl (fun j => nI (ln j)))), (aC, .inl (cA, 14, .inl (fun j => zz_o (cd j)))), (aS, .inl (cA, ww, .inl (fun j => nI (lz j))))]) [0, 1, 2, 3, 4, 5] rfl) (fun _ _ _ => trivial) 1 0 rfl rfl rfl hl.1 rfl (Nat.le_of_ble_eq_true rfl) d_E_firstThatFits_13 ⟨Nat.zero_le _, Nat.zero_le _⟩ ?_
        refine lv_if_eq (tgt := 30) hx hb d_E_firstThatFits_16 (by decide) (fun c16 => ?_) (fun c16 => ?_)
        · rw [zz_b0] at c16
          refine lv_iinc (v := nI (i + 1)) (lv' := [(3, .int (nI (i + 1))), (0, .ref aE), (1, .int (nI w)), (2, .int (nI fl))]) hx hb d_E_firstThatFits_30 hl (k := 3) rfl (nI_add i 1) (by decide) rfl (fun ls hl => ?_)
          refine lv_goto (tgt := 2) hx hb d_E_firstThatFits_33 (by decide) ?_
          exact ih_lp (i + 1) (by omega) (by rw [← hinv]; exact zz_first_no (by omega) (by simp_all)) (by omega) ls (lv_sub hl [1, 2, 3, 0] rfl)
        · rw [zz_bn0] at c16
          refine lv_aload_n hx hb d_E_firstThatFits_19 rfl (lv_at hl 0 rfl) ?_
          refine lv_iload_n hx hb d_E_firstThatFits_20 rfl (lv_at hl 3 rfl) ?_
          refine lv_iload_n hx hb d_E_firstThatFits_21 rfl (lv_at hl 2 rfl) ?_
          refine zz_rV (As := [.int (nI i), .int (nI fl)]) (rest := []) (r := nI (zz_b (zE_open cd fl i))) ⟨hx, hb, hml, hown, hts⟩ (c_E_isOpen l _ _ aE aM aV aL aC aS ww n un mk vl ln cd lz i fl (by omega) (by omega) (by omega)) (cwV 2 hts g_E_firstThatFits_45 rfl rfl rfl k_E_isOpen ⟨show 0 + 1 ≤ 1 by omega, show 8 + (4 + 11) + 0 ≤ 23 by omega⟩) (zz_blind_nx) hK (hP.sub (ws' := [(aE, .inr (1, [.int (nI ww), .ref aM, .ref aV, .ref aL, .ref aC, .ref aS, .int (nI un), .int (nI n)])), (aM, .inl (cA, 14, .inl (fun j => nI (mk j)))), (aV, .inl (cA, 14, .inl (fun j => nI (vl j)))), (aL, .inl (cA, 14, .inl (fun j => nI (ln j)))), (aC, .inl (cA, 14, .inl (fun j => zz_o (cd j)))), (aS, .inl (cA, ww, .inl (fun j => nI (lz j))))]) [0, 1, 2, 3, 4, 5] rfl) (fun _ _ _ => trivial) 1 0 rfl rfl rfl hl.1 rfl (Nat.le_of_ble_eq_true rfl) d_E_firstThatFits_22 ⟨Nat.zero_le _, Nat.zero_le _⟩ ?_
          refine lv_if_eq (tgt := 30) hx hb d_E_firstThatFits_25 (by decide) (fun c25 => ?_) (fun c25 => ?_)
          · rw [zz_b0] at c25
            refine lv_iinc (v := nI (i + 1)) (lv' := [(3, .int (nI (i + 1))), (0, .ref aE), (1, .int (nI w)), (2, .int (nI fl))]) hx hb d_E_firstThatFits_30 hl (k := 3) rfl (nI_add i 1) (by decide) rfl (fun ls hl => ?_)
            refine lv_goto (tgt := 2) hx hb d_E_firstThatFits_33 (by decide) ?_
            exact ih_lp (i + 1) (by omega) (by rw [← hinv]; exact zz_first_no (by omega) (by simp_all)) (by omega) ls (lv_sub hl [1, 2, 3, 0] rfl)
          · rw [zz_bn0] at c25
            refine lv_iload_n hx hb d_E_firstThatFits_28 rfl (lv_at hl 3 rfl) ?_
            exact W.iret (v := nI i) hx hb hr (fun t ht _ => zz_rd (by unfold zE_tried; rw [← hinv, zz_first_yes (by omega) (by simp_all)]; rfl) ht) (fun _ h => by cases h) d_E_firstThatFits_29
  exact lp (n + 1) 0 (by omega) (by rw [Nat.sub_zero]) (Nat.lt_succ_self _) ls (lv_sub hl [1, 2, 3, 0] rfl)

set_option maxHeartbeats 4000000 in
set_option maxRecDepth 100000 in
theorem c_E_firstOfList (l : Launch) (D : va_G) (cA : ClassId) (aE : Nat) (aM : Nat) (aV : Nat) (aL : Nat) (aC : Nat) (aS : Nat) (ww : Nat) (n : Nat) (un : Nat) (mk : Nat → Nat) (vl : Nat → Nat) (ln : Nat → Nat) (cd : Nat → Nat) (lz : Nat → Nat) (li : Nat) (fl : Nat) (hE : zE_ok ww n un mk vl ln cd lz) (hli : li < 16384) (hf : fl < 256) : Met l y_E_firstOfList ws_E_firstOfList ({ frames := 1, cells := 0, slots := 0, locals := 23 }) (va_Pc [.ref aE, .int (nI li), .int (nI fl)] (zz_pre D vwCl [(cA, .int)] [(aE, .inr (1, [.int (nI ww), .ref aM, .ref aV, .ref aL, .ref aC, .ref aS, .int (nI un), .int (nI n)])), (aM, .inl (cA, 14, .inl (fun j => nI (mk j)))), (aV, .inl (cA, 14, .inl (fun j => nI (vl j)))), (aL, .inl (cA, 14, .inl (fun j => nI (ln j)))), (aC, .inl (cA, 14, .inl (fun j => zz_o (cd j)))), (aS, .inl (cA, ww, .inl (fun j => nI (lz j))))] zz_nx)) (QcRead (zz_o (zE_ofList cd n li fl))) 0 0 (fun _ => False) := by
  refine Met.ofW (cc := b_E_firstOfList) (maxL := 4) (ret := (some .int)) (by decide) rfl ?_
  intro p e s m args below meth c s₁ B hml hv
  obtain ⟨rfl, hP, hK, hX⟩ := hv
  have hS : va_S (fun _ => False) s.heap s.heap [] := va_S.rf
  have hx := B.exec
  have hb := B.bytes
  have hr := B.returns
  have hts := atoms_spec (ws := ws_E_firstOfList) B.pre
  have hown : s.vm.findClass "DecodeTests$Encodings" = some m.cls := findClass_of_methodNamed B.named
  have hlocks := B.notSynchronized
  have hT : ∀ w9 ∈ zz_T, w9.before ([.ref aE, .int (nI li), .int (nI fl)] : List Value).toArray s = true := fun w9 h => hts w9 (List.mem_cons_of_mem _ h)
  have hl := lv_entry ([.ref aE, .int (nI li), .int (nI fl)]) (n := 4) (Nat.le_of_ble_eq_true rfl)
  rw [lg_entry_eq]
  generalize (lg_sl ([.ref aE, .int (nI li), .int (nI fl)]) ++ List.replicate (4 - (lg_sl ([.ref aE, .int (nI li), .int (nI fl)])).length) Slot.unset).toArray = ls at hl ⊢
  have hl : lv_has ls 4 [(0, .ref aE), (1, .int (nI li)), (2, .int (nI fl))] := hl
  obtain ⟨hww, hn, hun, hmk, hvl, hln, hcd, hlz⟩ := id hE
  refine lv_iconst (v := nI 0) hx hb d_E_firstOfList_0 (by decide) ?_
  refine lv_istore_n (lv' := [(3, .int (nI 0)), (0, .ref aE), (1, .int (nI li)), (2, .int (nI fl))]) hx hb d_E_firstOfList_1 rfl hl (by decide) rfl (fun ls hl => ?_)
  have lp : ∀ (fu : Nat) (i : Nat), (i ≤ n) → (zz_first (fun k => decide (li / 2 ^ k &&& 1 = 1) && zE_open cd fl k) i (n - i) = zz_first (fun k => decide (li / 2 ^ k &&& 1 = 1) && zE_open cd fl k) 0 n) → n - i < fu → ∀ (ls : Array Slot), lv_has ls 4 [(0, .ref aE), (1, .int (nI li)), (2, .int (nI fl)), (3, .int (nI i))] → W p l e (headSpec ws_E_firstOfList ({ frames := 1, cells := 0, slots := 0, locals := 23 })).room s m ([.ref aE, .int (nI li), .int (nI fl)] : List Value).toArray below meth c s.heap [] 0 0 (MQ below (QcRead (zz_o (zE_ofList cd n li fl))) ([.ref aE, .int (nI li), .int (nI fl)] : List Value).toArray s 0 0 (fun _ => False)) (F0 m 2 ls []) := by
    intro fu
    induction fu with
    | zero => intro i hi hinv hmu; exact absurd hmu (Nat.not_lt_zero _)
    | succ fu ih_lp =>
      intro i hi hinv hmu ls hl
      refine lv_iload_n hx hb d_E_firstOfList_2 rfl (lv_at hl 3 rfl) ?_
      refine lv_aload_n hx hb d_E_firstOfList_3 rfl (lv_at hl 0 rfl) ?_
      refine va_get (D := D) (ci := 1) (v := .int (nI n)) (C := "DecodeTests$Encodings") (T := F_E) (N := 8) hx hb hT hin_E hown hK hP 0 rfl rfl 7 (by decide) (hT _ q_f_E_31) (fun _ h9 => h9) rfl d_E_firstOfList_4 ?_
      refine lv_icmp_ge (tgt := 36) hx hb d_E_firstOfList_7 (by decide) (fun c7 => ?_) (fun c7 => ?_)
      · rw [zz_le (by omega) (by omega)] at c7
        refine lv_iconst (v := -1) hx hb d_E_firstOfList_36 (by decide) ?_
        exact W.iret (v := -1) hx hb hr (fun t ht _ => zz_rd (by unfold zE_ofList; rw [← hinv, zz_first_end (by omega)]; rfl) ht) (fun _ h => by cases h) d_E_firstOfList_37
      · rw [zz_le (by omega) (by omega)] at c7
        have b2 : li / 2 ^ i < 16384 := Nat.lt_of_le_of_lt (Nat.div_le_self _ _) hli
        have b3 : li / 2 ^ i &&& 1 < 256 := zz_and_lt (by decide)
        refine lv_iload_n hx hb d_E_firstOfList_10 rfl (lv_at hl 1 rfl) ?_
        refine lv_iload_n hx hb d_E_firstOfList_11 rfl (lv_at hl 3 rfl) ?_
        refine lv_ishr hx hb d_E_firstOfList_12 ?_
        refine zz_top (y := nI (li / 2 ^ i)) (zz_shr (by omega) (by omega)) ?_
        refine lv_iconst (v := nI 1) hx hb d_E_firstOfList_13 (by decide) ?_
        refine lv_iand hx hb d_E_firstOfList_14 ?_
        refine zz_top (y := nI ((li / 2 ^ i) &&& 1)) (zz_and (li / 2 ^ i) 1) ?_
        refine lv_iconst (v := nI 1) hx hb d_E_firstOfList_15 (by decide) ?_
        refine lv_icmp_ne (tgt := 30) hx hb d_E_firstOfList_16 (by decide) (fun c16 => ?_) (fun c16 => ?_)
        · rw [zz_eq (by omega) (by omega)] at c16
          refine lv_iinc (v := nI (i + 1)) (lv' := [(3, .int (nI (i + 1))), (0, .ref aE), (1, .int (nI li)), (2, .int (nI fl))]) hx hb d_E_firstOfList_30 hl (k := 3) rfl (nI_add i 1) (by decide) rfl (fun ls hl => ?_)
          refine lv_goto (tgt := 2) hx hb d_E_firstOfList_33 (by decide) ?_
          exact ih_lp (i + 1) (by omega) (by rw [← hinv]; exact zz_first_no (by omega) (by simp_all)) (by omega) ls (lv_sub hl [1, 2, 3, 0] rfl)
        · rw [zz_eq (by omega) (by omega)] at c16
          refine lv_aload_n hx hb d_E_firstOfList_19 rfl (lv_at hl 0 rfl) ?_
          refine lv_iload_n hx hb d_E_firstOfList_20 rfl (lv_at hl 3 rfl) ?_
          refine lv_iload_n hx hb d_E_firstOfList_21 rfl (lv_at hl 2 rfl) ?_
          refine zz_rV (As := [.int (nI i), .int (nI fl)]) (rest := []) (r := nI (zz_b (zE_open cd fl i))) ⟨hx, hb, hml, hown, hts⟩ (c_E_isOpen l _ _ aE aM aV aL aC aS ww n un mk vl ln cd lz i fl (by omega) (by omega) (by omega)) (cwV 2 hts g_E_firstOfList_45 rfl rfl rfl k_E_isOpen ⟨show 0 + 1 ≤ 1 by omega, show 8 + (4 + 11) + 0 ≤ 23 by omega⟩) (zz_blind_nx) hK (hP.sub (ws' := [(aE, .inr (1, [.int (nI ww), .ref aM, .ref aV, .ref aL, .ref aC, .ref aS, .int (nI un), .int (nI n)])), (aM, .inl (cA, 14, .inl (fun j => nI (mk j)))), (aV, .inl (cA, 14, .inl (fun j => nI (vl j)))), (aL, .inl (cA, 14, .inl (fun j => nI (ln j)))), (aC, .inl (cA, 14, .inl (fun j => zz_o (cd j)))), (aS, .inl (cA, ww, .inl (fun j => nI (lz j))))]) [0, 1, 2, 3, 4, 5] rfl) (fun _ _ _ => trivial) 1 0 rfl rfl rfl hl.1 rfl (Nat.le_of_ble_eq_true rfl) d_E_firstOfList_22 ⟨Nat.zero_le _, Nat.zero_le _⟩ ?_
          refine lv_if_eq (tgt := 30) hx hb d_E_firstOfList_25 (by decide) (fun c25 => ?_) (fun c25 => ?_)
          · rw [zz_b0] at c25
            refine lv_iinc (v := nI (i + 1)) (lv' := [(3, .int (nI (i + 1))), (0, .ref aE), (1, .int (nI li)), (2, .int (nI fl))]) hx hb d_E_firstOfList_30 hl (k := 3) rfl (nI_add i 1) (by decide) rfl (fun ls hl => ?_)
            refine lv_goto (tgt := 2) hx hb d_E_firstOfList_33 (by decide) ?_
            exact ih_lp (i + 1) (by omega) (by rw [← hinv]; exact zz_first_no (by omega) (by simp_all)) (by omega) ls (lv_sub hl [1, 2, 3, 0] rfl)
          · rw [zz_bn0] at c25
            refine lv_iload_n hx hb d_E_firstOfList_28 rfl (lv_at hl 3 rfl) ?_
            exact W.iret (v := nI i) hx hb hr (fun t ht _ => zz_rd (by unfold zE_ofList; rw [← hinv, zz_first_yes (by omega) (by simp_all)]; rfl) ht) (fun _ h => by cases h) d_E_firstOfList_29
  exact lp (n + 1) 0 (by omega) (by rw [Nat.sub_zero]) (Nat.lt_succ_self _) ls (lv_sub hl [1, 2, 3, 0] rfl)

set_option maxHeartbeats 4000000 in
set_option maxRecDepth 100000 in
theorem c_E_memberAt (l : Launch) (D : va_G) (cA : ClassId) (li : Nat) (pl : Nat) (hli : li < 16384) (hpl : pl < 256) : Met l y_E_memberAt ws_E_memberAt ({ frames := 0, cells := 0, slots := 0, locals := 0 }) (va_Pc [.int (nI li), .int (nI pl)] (zz_pre D vwCl [(cA, .int)] [] zz_nx)) (QcRead (zz_o (zE_mem li pl 0 0 14))) 0 0 (fun _ => False) := by
  refine Met.ofW (cc := b_E_memberAt) (maxL := 4) (ret := (some .int)) (by decide) rfl ?_
  intro p e s m args below meth c s₁ B hml hv
  obtain ⟨rfl, hP, hK, hX⟩ := hv
  have hS : va_S (fun _ => False) s.heap s.heap [] := va_S.rf
  have hx := B.exec
  have hb := B.bytes
  have hr := B.returns
  have hts := atoms_spec (ws := ws_E_memberAt) B.pre
  have hown : s.vm.findClass "DecodeTests$Encodings" = some m.cls := findClass_of_methodNamed B.named
  have hlocks := B.notSynchronized
  have hT : ∀ w9 ∈ zz_T, w9.before ([.int (nI li), .int (nI pl)] : List Value).toArray s = true := fun w9 h => hts w9 (List.mem_cons_of_mem _ h)
  have hl := lv_entry ([.int (nI li), .int (nI pl)]) (n := 4) (Nat.le_of_ble_eq_true rfl)
  rw [lg_entry_eq]
  generalize (lg_sl ([.int (nI li), .int (nI pl)]) ++ List.replicate (4 - (lg_sl ([.int (nI li), .int (nI pl)])).length) Slot.unset).toArray = ls at hl ⊢
  have hl : lv_has ls 4 [(0, .int (nI li)), (1, .int (nI pl))] := hl
  refine lv_iconst (v := nI 0) hx hb d_E_memberAt_0 (by decide) ?_
  refine lv_istore_n (lv' := [(2, .int (nI 0)), (0, .int (nI li)), (1, .int (nI pl))]) hx hb d_E_memberAt_1 rfl hl (by decide) rfl (fun ls hl => ?_)
  refine lv_iconst (v := nI 0) hx hb d_E_memberAt_2 (by decide) ?_
  refine lv_istore_n (lv' := [(3, .int (nI 0)), (2, .int (nI 0)), (0, .int (nI li)), (1, .int (nI pl))]) hx hb d_E_memberAt_3 rfl hl (by decide) rfl (fun ls hl => ?_)
  have lp : ∀ (fu : Nat) (i : Nat) (b : Nat), (i ≤ 14) → (b ≤ i) → (zE_mem li pl i b (14 - i) = zE_mem li pl 0 0 14) → 14 - i < fu → ∀ (ls : Array Slot), lv_has ls 4 [(0, .int (nI li)), (1, .int (nI pl)), (2, .int (nI b)), (3, .int (nI i))] → W p l e (headSpec ws_E_memberAt ({ frames := 0, cells := 0, slots := 0, locals := 0 })).room s m ([.int (nI li), .int (nI pl)] : List Value).toArray below meth c s.heap [] 0 0 (MQ below (QcRead (zz_o (zE_mem li pl 0 0 14))) ([.int (nI li), .int (nI pl)] : List Value).toArray s 0 0 (fun _ => False)) (F0 m 4 ls []) := by
    intro fu
    induction fu with
    | zero => intro i b hi hbi hinv hmu; exact absurd hmu (Nat.not_lt_zero _)
    | succ fu ih_lp =>
      intro i b hi hbi hinv hmu ls hl
      refine lv_iload_n hx hb d_E_memberAt_4 rfl (lv_at hl 3 rfl) ?_
      refine lv_bipush (v := nI 14) hx hb d_E_memberAt_5 (by decide) ?_
      refine lv_icmp_ge (tgt := 35) hx hb d_E_memberAt_7 (by decide) (fun c7 => ?_) (fun c7 => ?_)
      · rw [zz_le (by omega) (by omega)] at c7
        refine lv_iconst (v := -1) hx hb d_E_memberAt_35 (by decide) ?_
        exact W.iret (v := -1) hx hb hr (fun t ht _ => zz_rd (by rw [← hinv, show 14 - i = 0 by omega]; rfl) ht) (fun _ h => by cases h) d_E_memberAt_36
      · rw [zz_le (by omega) (by omega)] at c7
        have b2 : li / 2 ^ i < 16384 := Nat.lt_of_le_of_lt (Nat.div_le_self _ _) hli
        have b3 : li / 2 ^ i &&& 1 < 256 := zz_and_lt (by decide)
        refine lv_iload_n hx hb d_E_memberAt_10 rfl (lv_at hl 0 rfl) ?_
        refine lv_iload_n hx hb d_E_memberAt_11 rfl (lv_at hl 3 rfl) ?_
        refine lv_ishr hx hb d_E_memberAt_12 ?_
        refine zz_top (y := nI (li / 2 ^ i)) (zz_shr (by omega) (by omega)) ?_
        refine lv_iconst (v := nI 1) hx hb d_E_memberAt_13 (by decide) ?_
        refine lv_iand hx hb d_E_memberAt_14 ?_
        refine zz_top (y := nI ((li / 2 ^ i) &&& 1)) (zz_and (li / 2 ^ i) 1) ?_
        refine lv_iconst (v := nI 1) hx hb d_E_memberAt_15 (by decide) ?_
        refine lv_icmp_ne (tgt := 29) hx hb d_E_memberAt_16 (by decide) (fun c16 => ?_) (fun c16 => ?_)
        · rw [zz_eq (by omega) (by omega)] at c16
          refine lv_iinc (v := nI (i + 1)) (lv' := [(3, .int (nI (i + 1))), (0, .int (nI li)), (1, .int (nI pl)), (2, .int (nI b))]) hx hb d_E_memberAt_29 hl (k := 3) rfl (nI_add i 1) (by decide) rfl (fun ls hl => ?_)
          refine lv_goto (tgt := 4) hx hb d_E_memberAt_32 (by decide) ?_
          exact ih_lp (i + 1) b (by omega) (by omega) (by rw [← hinv, show 14 - i = (14 - (i + 1)) + 1 by omega, zE_mem]; simp_all) (by omega) ls (lv_sub hl [1, 2, 3, 0] rfl)
        · rw [zz_eq (by omega) (by omega)] at c16
          refine lv_iload_n hx hb d_E_memberAt_19 rfl (lv_at hl 2 rfl) ?_
          refine lv_iload_n hx hb d_E_memberAt_20 rfl (lv_at hl 1 rfl) ?_
          refine lv_icmp_ne (tgt := 26) hx hb d_E_memberAt_21 (by decide) (fun c21 => ?_) (fun c21 => ?_)
          · rw [zz_eq (by omega) (by omega)] at c21
            refine lv_iinc (v := nI (b + 1)) (lv' := [(2, .int (nI (b + 1))), (0, .int (nI li)), (1, .int (nI pl)), (3, .int (nI i))]) hx hb d_E_memberAt_26 hl (k := 2) rfl (nI_add b 1) (by decide) rfl (fun ls hl => ?_)
            refine lv_iinc (v := nI (i + 1)) (lv' := [(3, .int (nI (i + 1))), (2, .int (nI (b + 1))), (0, .int (nI li)), (1, .int (nI pl))]) hx hb d_E_memberAt_29 hl (k := 3) rfl (nI_add i 1) (by decide) rfl (fun ls hl => ?_)
            refine lv_goto (tgt := 4) hx hb d_E_memberAt_32 (by decide) ?_
            exact ih_lp (i + 1) (b + 1) (by omega) (by omega) (by rw [← hinv, show 14 - i = (14 - (i + 1)) + 1 by omega, zE_mem]; simp_all) (by omega) ls (lv_sub hl [2, 3, 1, 0] rfl)
          · rw [zz_eq (by omega) (by omega)] at c21
            refine lv_iload_n hx hb d_E_memberAt_24 rfl (lv_at hl 3 rfl) ?_
            exact W.iret (v := nI i) hx hb hr (fun t ht _ => zz_rd (by rw [← hinv, show 14 - i = (14 - (i + 1)) + 1 by omega, zE_mem, if_pos c16, if_pos c21]; rfl) ht) (fun _ h => by cases h) d_E_memberAt_25
  exact lp (14 + 1) 0 0 (by omega) (by omega) rfl (Nat.lt_succ_self _) ls (lv_sub hl [2, 3, 1, 0] rfl)

set_option maxHeartbeats 4000000 in
set_option maxRecDepth 100000 in
theorem c_E_leaveWordOut (l : Launch) (D : va_G) (cA : ClassId) (aE : Nat) (aM : Nat) (aV : Nat) (aL : Nat) (aC : Nat) (aS : Nat) (ww : Nat) (n : Nat) (un : Nat) (mk : Nat → Nat) (vl : Nat → Nat) (ln : Nat → Nat) (cd : Nat → Nat) (lz : Nat → Nat) (hE : zE_ok ww n un mk vl ln cd lz) : Met l y_E_leaveWordOut ws_E_leaveWordOut ({ frames := 0, cells := 0, slots := 0, locals := 0 }) (va_Pc [.ref aE] (zz_pre D vwCl [(cA, .int)] [(aE, .inr (1, [.int (nI ww), .ref aM, .ref aV, .ref aL, .ref aC, .ref aS, .int (nI un), .int (nI n)])), (aM, .inl (cA, 14, .inl (fun j => nI (mk j)))), (aV, .inl (cA, 14, .inl (fun j => nI (vl j)))), (aL, .inl (cA, 14, .inl (fun j => nI (ln j)))), (aC, .inl (cA, 14, .inl (fun j => zz_o (cd j)))), (aS, .inl (cA, ww, .inl (fun j => nI (lz j))))] zz_nx)) (QcRead (nI (zz_b (zz_any (fun w => decide (lz w = 0)) 0 ww)))) 0 0 (fun _ => False) := by
  refine Met.ofW (cc := b_E_leaveWordOut) (maxL := 2) (ret := (some .boolean)) (by decide) rfl ?_
  intro p e s m args below meth c s₁ B hml hv
  obtain ⟨rfl, hP, hK, hX⟩ := hv
  have hS : va_S (fun _ => False) s.heap s.heap [] := va_S.rf
  have hx := B.exec
  have hb := B.bytes
  have hr := B.returns
  have hts := atoms_spec (ws := ws_E_leaveWordOut) B.pre
  have hown : s.vm.findClass "DecodeTests$Encodings" = some m.cls := findClass_of_methodNamed B.named
  have hlocks := B.notSynchronized
  have hT : ∀ w9 ∈ zz_T, w9.before ([.ref aE] : List Value).toArray s = true := fun w9 h => hts w9 (List.mem_cons_of_mem _ h)
  have hl := lv_entry ([.ref aE]) (n := 2) (Nat.le_of_ble_eq_true rfl)
  rw [lg_entry_eq]
  generalize (lg_sl ([.ref aE]) ++ List.replicate (2 - (lg_sl ([.ref aE])).length) Slot.unset).toArray = ls at hl ⊢
  have hl : lv_has ls 2 [(0, .ref aE)] := hl
  obtain ⟨hww, hn, hun, hmk, hvl, hln, hcd, hlz⟩ := id hE
  refine lv_iconst (v := nI 0) hx hb d_E_leaveWordOut_0 (by decide) ?_
  refine lv_istore_n (lv' := [(1, .int (nI 0)), (0, .ref aE)]) hx hb d_E_leaveWordOut_1 rfl hl (by decide) rfl (fun ls hl => ?_)
  have lp : ∀ (fu : Nat) (i : Nat), (i ≤ ww) → (zz_any (fun w => decide (lz w = 0)) i (ww - i) = zz_any (fun w => decide (lz w = 0)) 0 ww) → ww - i < fu → ∀ (ls : Array Slot), lv_has ls 2 [(0, .ref aE), (1, .int (nI i))] → W p l e (headSpec ws_E_leaveWordOut ({ frames := 0, cells := 0, slots := 0, locals := 0 })).room s m ([.ref aE] : List Value).toArray below meth c s.heap [] 0 0 (MQ below (QcRead (nI (zz_b (zz_any (fun w => decide (lz w = 0)) 0 ww)))) ([.ref aE] : List Value).toArray s 0 0 (fun _ => False)) (F0 m 2 ls []) := by
    intro fu
    induction fu with
    | zero => intro i hi hinv hmu; exact absurd hmu (Nat.not_lt_zero _)
    | succ fu ih_lp =>
      intro i hi hinv hmu ls hl
      refine lv_iload_n hx hb d_E_leaveWordOut_2 rfl (lv_at hl 1 rfl) ?_
      refine lv_aload_n hx hb d_E_leaveWordOut_3 rfl (lv_at hl 0 rfl) ?_
      refine va_get (D := D) (ci := 1) (v := .int (nI ww)) (C := "DecodeTests$Encodings") (T := F_E) (N := 8) hx hb hT hin_E hown hK hP 0 rfl rfl 0 (by decide) (hT _ q_f_E_24) (fun _ h9 => h9) rfl d_E_leaveWordOut_4 ?_
      refine lv_icmp_ge (tgt := 27) hx hb d_E_leaveWordOut_7 (by decide) (fun c7 => ?_) (fun c7 => ?_)
      · rw [zz_le (by omega) (by omega)] at c7
        refine lv_iconst (v := nI 0) hx hb d_E_leaveWordOut_27 (by decide) ?_
        exact W.zret (v := nI 0) (ty := .boolean) hx hb hr rfl (fun t ht _ => zz_rd (by rw [← hinv, zz_any_end (by omega)]; rfl) ht) (fun _ h => by cases h) d_E_leaveWordOut_28
      · rw [zz_le (by omega) (by omega)] at c7
        have b2 := hlz i
        refine lv_aload_n hx hb d_E_leaveWordOut_10 rfl (lv_at hl 0 rfl) ?_
        refine va_get (D := D) (ci := 1) (v := .ref aS) (C := "DecodeTests$Encodings") (T := F_E) (N := 8) hx hb hT hin_E hown hK hP 0 rfl rfl 5 (by decide) (hT _ q_f_E_28) (fun _ h9 => h9) rfl d_E_leaveWordOut_11 ?_
        refine lv_iload_n hx hb d_E_leaveWordOut_14 rfl (lv_at hl 1 rfl) ?_
        refine zz_iald hx hb hK hP 5 0 rfl rfl (j := i) (by omega) (by omega) d_E_leaveWordOut_15 ?_
        refine zz_top (y := nI (lz i)) rfl ?_
        refine lv_if_ne (tgt := 21) hx hb d_E_leaveWordOut_16 (by decide) (fun c16 => ?_) (fun c16 => ?_)
        · rw [zz_eq0 (by omega)] at c16
          refine lv_iinc (v := nI (i + 1)) (lv' := [(1, .int (nI (i + 1))), (0, .ref aE)]) hx hb d_E_leaveWordOut_21 hl (k := 1) rfl (nI_add i 1) (by decide) rfl (fun ls hl => ?_)
          refine lv_goto (tgt := 2) hx hb d_E_leaveWordOut_24 (by decide) ?_
          exact ih_lp (i + 1) (by omega) (by rw [← hinv]; exact zz_any_no (by omega) (by simp_all)) (by omega) ls (lv_sub hl [1, 0] rfl)
        · rw [zz_eq0 (by omega)] at c16
          refine lv_iconst (v := nI 1) hx hb d_E_leaveWordOut_19 (by decide) ?_
          exact W.zret (v := nI 1) (ty := .boolean) hx hb hr rfl (fun t ht _ => zz_rd (by rw [← hinv, zz_any_yes (by omega) (by simp_all)]; rfl) ht) (fun _ h => by cases h) d_E_leaveWordOut_20
  exact lp (ww + 1) 0 (by omega) (by rw [Nat.sub_zero]) (Nat.lt_succ_self _) ls (lv_sub hl [1, 0] rfl)

set_option maxHeartbeats 4000000 in
set_option maxRecDepth 100000 in
theorem c_E_haveCommonWord (l : Launch) (D : va_G) (cA : ClassId) (aE : Nat) (aM : Nat) (aV : Nat) (aL : Nat) (aC : Nat) (aS : Nat) (ww : Nat) (n : Nat) (un : Nat) (mk : Nat → Nat) (vl : Nat → Nat) (ln : Nat → Nat) (cd : Nat → Nat) (lz : Nat → Nat) (a : Nat) (b : Nat) (hE : zE_ok ww n un mk vl ln cd lz) (ha : a < 14) (hb9 : b < 14) : Met l y_E_haveCommonWord ws_E_haveCommonWord ({ frames := 0, cells := 0, slots := 0, locals := 0 }) (va_Pc [.ref aE, .int (nI a), .int (nI b)] (zz_pre D vwCl [(cA, .int)] [(aE, .inr (1, [.int (nI ww), .ref aM, .ref aV, .ref aL, .ref aC, .ref aS, .int (nI un), .int (nI n)])), (aM, .inl (cA, 14, .inl (fun j => nI (mk j)))), (aV, .inl (cA, 14, .inl (fun j => nI (vl j)))), (aL, .inl (cA, 14, .inl (fun j => nI (ln j)))), (aC, .inl (cA, 14, .inl (fun j => zz_o (cd j)))), (aS, .inl (cA, ww, .inl (fun j => nI (lz j))))] zz_nx)) (QcRead (nI (zz_b (zE_common mk vl a b)))) 0 0 (fun _ => False) := by
  refine Met.ofW (cc := b_E_haveCommonWord) (maxL := 3) (ret := (some .boolean)) (by decide) rfl ?_
  intro p e s m args below meth c s₁ B hml hv
  obtain ⟨rfl, hP, hK, hX⟩ := hv
  have hS : va_S (fun _ => False) s.heap s.heap [] := va_S.rf
  have hx := B.exec
  have hb := B.bytes
  have hr := B.returns
  have hts := atoms_spec (ws := ws_E_haveCommonWord) B.pre
  have hown : s.vm.findClass "DecodeTests$Encodings" = some m.cls := findClass_of_methodNamed B.named
  have hlocks := B.notSynchronized
  have hT : ∀ w9 ∈ zz_T, w9.before ([.ref aE, .int (nI a), .int (nI b)] : List Value).toArray s = true := fun w9 h => hts w9 (List.mem_cons_of_mem _ h)
  have hl := lv_entry ([.ref aE, .int (nI a), .int (nI b)]) (n := 3) (Nat.le_of_ble_eq_true rfl)
  rw [lg_entry_eq]
  generalize (lg_sl ([.ref aE, .int (nI a), .int (nI b)]) ++ List.replicate (3 - (lg_sl ([.ref aE, .int (nI a), .int (nI b)])).length) Slot.unset).toArray = ls at hl ⊢
  have hl : lv_has ls 3 [(0, .ref aE), (1, .int (nI a)), (2, .int (nI b))] := hl
  obtain ⟨hww, hn, hun, hmk, hvl, hln, hcd, hlz⟩ := id hE
  have b1 : ((vl a ^^^ vl b) &&& mk a) &&& mk b < 256 := zz_and_lt (hmk b)
  refine lv_aload_n hx hb d_E_haveCommonWord_0 rfl (lv_at hl 0 rfl) ?_
  refine va_get (D := D) (ci := 1) (v := .ref aV) (C := "DecodeTests$Encodings") (T := F_E) (N := 8) hx hb hT hin_E hown hK hP 0 rfl rfl 2 (by decide) (hT _ q_f_E_15) (fun _ h9 => h9) rfl d_E_haveCommonWord_1 ?_
  refine lv_iload_n hx hb d_E_haveCommonWord_4 rfl (lv_at hl 1 rfl) ?_
  refine zz_iald hx hb hK hP 2 0 rfl rfl (j := a) (by omega) (by omega) d_E_haveCommonWord_5 ?_
  refine zz_top (y := nI (vl a)) rfl ?_
  refine lv_aload_n hx hb d_E_haveCommonWord_6 rfl (lv_at hl 0 rfl) ?_
  refine va_get (D := D) (ci := 1) (v := .ref aV) (C := "DecodeTests$Encodings") (T := F_E) (N := 8) hx hb hT hin_E hown hK hP 0 rfl rfl 2 (by decide) (hT _ q_f_E_15) (fun _ h9 => h9) rfl d_E_haveCommonWord_7 ?_
  refine lv_iload_n hx hb d_E_haveCommonWord_10 rfl (lv_at hl 2 rfl) ?_
  refine zz_iald hx hb hK hP 2 0 rfl rfl (j := b) (by omega) (by omega) d_E_haveCommonWord_11 ?_
  refine zz_top (y := nI (vl b)) rfl ?_
  refine lv_ixor hx hb d_E_haveCommonWord_12 ?_
  refine zz_top (y := nI ((vl a) ^^^ (vl b))) (zz_xor (vl a) (vl b)) ?_
  refine lv_aload_n hx hb d_E_haveCommonWord_13 rfl (lv_at hl 0 rfl) ?_
  refine va_get (D := D) (ci := 1) (v := .ref aM) (C := "DecodeTests$Encodings") (T := F_E) (N := 8) hx hb hT hin_E hown hK hP 0 rfl rfl 1 (by decide) (hT _ q_f_E_9) (fun _ h9 => h9) rfl d_E_haveCommonWord_14 ?_
  refine lv_iload_n hx hb d_E_haveCommonWord_17 rfl (lv_at hl 1 rfl) ?_
  refine zz_iald hx hb hK hP 1 0 rfl rfl (j := a) (by omega) (by omega) d_E_haveCommonWord_18 ?_
  refine zz_top (y := nI (mk a)) rfl ?_
  refine lv_iand hx hb d_E_haveCommonWord_19 ?_
  refine zz_top (y := nI (((vl a) ^^^ (vl b)) &&& (mk a))) (zz_and ((vl a) ^^^ (vl b)) (mk a)) ?_
  refine lv_aload_n hx hb d_E_haveCommonWord_20 rfl (lv_at hl 0 rfl) ?_
  refine va_get (D := D) (ci := 1) (v := .ref aM) (C := "DecodeTests$Encodings") (T := F_E) (N := 8) hx hb hT hin_E hown hK hP 0 rfl rfl 1 (by decide) (hT _ q_f_E_9) (fun _ h9 => h9) rfl d_E_haveCommonWord_21 ?_
  refine lv_iload_n hx hb d_E_haveCommonWord_24 rfl (lv_at hl 2 rfl) ?_
  refine zz_iald hx hb hK hP 1 0 rfl rfl (j := b) (by omega) (by omega) d_E_haveCommonWord_25 ?_
  refine zz_top (y := nI (mk b)) rfl ?_
  refine lv_iand hx hb d_E_haveCommonWord_26 ?_
  refine zz_top (y := nI ((((vl a) ^^^ (vl b)) &&& (mk a)) &&& (mk b))) (zz_and (((vl a) ^^^ (vl b)) &&& (mk a)) (mk b)) ?_
  refine lv_if_ne (tgt := 34) hx hb d_E_haveCommonWord_27 (by decide) (fun c27 => ?_) (fun c27 => ?_)
  · rw [zz_eq0 (by omega)] at c27
    refine lv_iconst (v := nI 0) hx hb d_E_haveCommonWord_34 (by decide) ?_
    exact W.zret (v := nI 0) (ty := .boolean) hx hb hr rfl (fun t ht _ => zz_rd (by simp_all [zE_common, zz_b]) ht) (fun _ h => by cases h) d_E_haveCommonWord_35
  · rw [zz_eq0 (by omega)] at c27
    refine lv_iconst (v := nI 1) hx hb d_E_haveCommonWord_30 (by decide) ?_
    refine lv_goto (tgt := 35) hx hb d_E_haveCommonWord_31 (by decide) ?_
    exact W.zret (v := nI 1) (ty := .boolean) hx hb hr rfl (fun t ht _ => zz_rd (by simp_all [zE_common, zz_b]) ht) (fun _ h => by cases h) d_E_haveCommonWord_35

set_option maxHeartbeats 4000000 in
set_option maxRecDepth 100000 in
theorem c_E_hasAllOf (l : Launch) (D : va_G) (cA : ClassId) (aE : Nat) (aM : Nat) (aV : Nat) (aL : Nat) (aC : Nat) (aS : Nat) (ww : Nat) (n : Nat) (un : Nat) (mk : Nat → Nat) (vl : Nat → Nat) (ln : Nat → Nat) (cd : Nat → Nat) (lz : Nat → Nat) (a : Nat) (b : Nat) (hE : zE_ok ww n un mk vl ln cd lz) (ha : a < 14) (hb9 : b < 14) : Met l y_E_hasAllOf ws_E_hasAllOf ({ frames := 0, cells := 0, slots := 0, locals := 0 }) (va_Pc [.ref aE, .int (nI a), .int (nI b)] (zz_pre D vwCl [(cA, .int)] [(aE, .inr (1, [.int (nI ww), .ref aM, .ref aV, .ref aL, .ref aC, .ref aS, .int (nI un), .int (nI n)])), (aM, .inl (cA, 14, .inl (fun j => nI (mk j)))), (aV, .inl (cA, 14, .inl (fun j => nI (vl j)))), (aL, .inl (cA, 14, .inl (fun j => nI (ln j)))), (aC, .inl (cA, 14, .inl (fun j => zz_o (cd j)))), (aS, .inl (cA, ww, .inl (fun j => nI (lz j))))] zz_nx)) (QcRead (nI (zz_b (zE_all mk a b)))) 0 0 (fun _ => False) := by
  refine Met.ofW (cc := b_E_hasAllOf) (maxL := 3) (ret := (some .boolean)) (by decide) rfl ?_
  intro p e s m args below meth c s₁ B hml hv
  obtain ⟨rfl, hP, hK, hX⟩ := hv
  have hS : va_S (fun _ => False) s.heap s.heap [] := va_S.rf
  have hx := B.exec
  have hb := B.bytes
  have hr := B.returns
  have hts := atoms_spec (ws := ws_E_hasAllOf) B.pre
  have hown : s.vm.findClass "DecodeTests$Encodings" = some m.cls := findClass_of_methodNamed B.named
  have hlocks := B.notSynchronized
  have hT : ∀ w9 ∈ zz_T, w9.before ([.ref aE, .int (nI a), .int (nI b)] : List Value).toArray s = true := fun w9 h => hts w9 (List.mem_cons_of_mem _ h)
  have hl := lv_entry ([.ref aE, .int (nI a), .int (nI b)]) (n := 3) (Nat.le_of_ble_eq_true rfl)
  rw [lg_entry_eq]
  generalize (lg_sl ([.ref aE, .int (nI a), .int (nI b)]) ++ List.replicate (3 - (lg_sl ([.ref aE, .int (nI a), .int (nI b)])).length) Slot.unset).toArray = ls at hl ⊢
  have hl : lv_has ls 3 [(0, .ref aE), (1, .int (nI a)), (2, .int (nI b))] := hl
  obtain ⟨hww, hn, hun, hmk, hvl, hln, hcd, hlz⟩ := id hE
  have b1 : mk a &&& (mk b ^^^ 4294967295) < 256 := zz_and_lt' (hmk a)
  refine lv_aload_n hx hb d_E_hasAllOf_0 rfl (lv_at hl 0 rfl) ?_
  refine va_get (D := D) (ci := 1) (v := .ref aM) (C := "DecodeTests$Encodings") (T := F_E) (N := 8) hx hb hT hin_E hown hK hP 0 rfl rfl 1 (by decide) (hT _ q_f_E_9) (fun _ h9 => h9) rfl d_E_hasAllOf_1 ?_
  refine lv_iload_n hx hb d_E_hasAllOf_4 rfl (lv_at hl 1 rfl) ?_
  refine zz_iald hx hb hK hP 1 0 rfl rfl (j := a) (by omega) (by omega) d_E_hasAllOf_5 ?_
  refine zz_top (y := nI (mk a)) rfl ?_
  refine lv_aload_n hx hb d_E_hasAllOf_6 rfl (lv_at hl 0 rfl) ?_
  refine va_get (D := D) (ci := 1) (v := .ref aM) (C := "DecodeTests$Encodings") (T := F_E) (N := 8) hx hb hT hin_E hown hK hP 0 rfl rfl 1 (by decide) (hT _ q_f_E_9) (fun _ h9 => h9) rfl d_E_hasAllOf_7 ?_
  refine lv_iload_n hx hb d_E_hasAllOf_10 rfl (lv_at hl 2 rfl) ?_
  refine zz_iald hx hb hK hP 1 0 rfl rfl (j := b) (by omega) (by omega) d_E_hasAllOf_11 ?_
  refine zz_top (y := nI (mk b)) rfl ?_
  refine lv_iconst (v := -1) hx hb d_E_hasAllOf_12 (by decide) ?_
  refine lv_ixor hx hb d_E_hasAllOf_13 ?_
  refine zz_top (y := nI (mk b ^^^ 4294967295)) (zz_not _) ?_
  refine lv_iand hx hb d_E_hasAllOf_14 ?_
  refine zz_top (y := nI ((mk a) &&& (mk b ^^^ 4294967295))) (zz_and (mk a) (mk b ^^^ 4294967295)) ?_
  refine lv_if_ne (tgt := 22) hx hb d_E_hasAllOf_15 (by decide) (fun c15 => ?_) (fun c15 => ?_)
  · rw [zz_eq0 (by omega)] at c15
    refine lv_iconst (v := nI 0) hx hb d_E_hasAllOf_22 (by decide) ?_
    exact W.zret (v := nI 0) (ty := .boolean) hx hb hr rfl (fun t ht _ => zz_rd (by simp_all [zE_all, zz_b]) ht) (fun _ h => by cases h) d_E_hasAllOf_23
  · rw [zz_eq0 (by omega)] at c15
    refine lv_iconst (v := nI 1) hx hb d_E_hasAllOf_18 (by decide) ?_
    refine lv_goto (tgt := 23) hx hb d_E_hasAllOf_19 (by decide) ?_
    exact W.zret (v := nI 1) (ty := .boolean) hx hb hr rfl (fun t ht _ => zz_rd (by simp_all [zE_all, zz_b]) ht) (fun _ h => by cases h) d_E_hasAllOf_23

set_option maxHeartbeats 4000000 in
set_option maxRecDepth 100000 in
theorem c_E_anyCross (l : Launch) (D : va_G) (cA : ClassId) (aE : Nat) (aM : Nat) (aV : Nat) (aL : Nat) (aC : Nat) (aS : Nat) (ww : Nat) (n : Nat) (un : Nat) (mk : Nat → Nat) (vl : Nat → Nat) (ln : Nat → Nat) (cd : Nat → Nat) (lz : Nat → Nat) (hE : zE_ok ww n un mk vl ln cd lz) : Met l y_E_anyCross ws_E_anyCross ({ frames := 1, cells := 0, slots := 0, locals := 22 }) (va_Pc [.ref aE] (zz_pre D vwCl [(cA, .int)] [(aE, .inr (1, [.int (nI ww), .ref aM, .ref aV, .ref aL, .ref aC, .ref aS, .int (nI un), .int (nI n)])), (aM, .inl (cA, 14, .inl (fun j => nI (mk j)))), (aV, .inl (cA, 14, .inl (fun j => nI (vl j)))), (aL, .inl (cA, 14, .inl (fun j => nI (ln j)))), (aC, .inl (cA, 14, .inl (fun j => zz_o (cd j)))), (aS, .inl (cA, ww, .inl (fun j => nI (lz j))))] zz_nx)) (QcRead (nI (zz_b (zE_cross mk vl n)))) 0 0 (fun _ => False) := by
  refine Met.ofW (cc := b_E_anyCross) (maxL := 3) (ret := (some .boolean)) (by decide) rfl ?_
  intro p e s m args below meth c s₁ B hml hv
  obtain ⟨rfl, hP, hK, hX⟩ := hv
  have hS : va_S (fun _ => False) s.heap s.heap [] := va_S.rf
  have hx := B.exec
  have hb := B.bytes
  have hr := B.returns
  have hts := atoms_spec (ws := ws_E_anyCross) B.pre
  have hown : s.vm.findClass "DecodeTests$Encodings" = some m.cls := findClass_of_methodNamed B.named
  have hlocks := B.notSynchronized
  have hT : ∀ w9 ∈ zz_T, w9.before ([.ref aE] : List Value).toArray s = true := fun w9 h => hts w9 (List.mem_cons_of_mem _ h)
  have hl := lv_entry ([.ref aE]) (n := 3) (Nat.le_of_ble_eq_true rfl)
  rw [lg_entry_eq]
  generalize (lg_sl ([.ref aE]) ++ List.replicate (3 - (lg_sl ([.ref aE])).length) Slot.unset).toArray = ls at hl ⊢
  have hl : lv_has ls 3 [(0, .ref aE)] := hl
  obtain ⟨hww, hn, hun, hmk, hvl, hln, hcd, hlz⟩ := id hE
  refine lv_iconst (v := nI 0) hx hb d_E_anyCross_0 (by decide) ?_
  refine lv_istore_n (lv' := [(1, .int (nI 0)), (0, .ref aE)]) hx hb d_E_anyCross_1 rfl hl (by decide) rfl (fun ls hl => ?_)
  have lp : ∀ (fu : Nat) (a : Nat), (a ≤ n) → (zz_any (fun a => zz_any (zE_x mk vl a) (a + 1) (n - (a + 1))) a (n - a) = zz_any (fun a => zz_any (zE_x mk vl a) (a + 1) (n - (a + 1))) 0 n) → n - a < fu → ∀ (ls : Array Slot), lv_has ls 3 [(0, .ref aE), (1, .int (nI a))] → W p l e (headSpec ws_E_anyCross ({ frames := 1, cells := 0, slots := 0, locals := 22 })).room s m ([.ref aE] : List Value).toArray below meth c s.heap [] 0 0 (MQ below (QcRead (nI (zz_b (zE_cross mk vl n)))) ([.ref aE] : List Value).toArray s 0 0 (fun _ => False)) (F0 m 2 ls []) := by
    intro fu
    induction fu with
    | zero => intro a ha hinv hmu; exact absurd hmu (Nat.not_lt_zero _)
    | succ fu ih_lp =>
      intro a ha hinv hmu ls hl
      refine lv_iload_n hx hb d_E_anyCross_2 rfl (lv_at hl 1 rfl) ?_
      refine lv_aload_n hx hb d_E_anyCross_3 rfl (lv_at hl 0 rfl) ?_
      refine va_get (D := D) (ci := 1) (v := .int (nI n)) (C := "DecodeTests$Encodings") (T := F_E) (N := 8) hx hb hT hin_E hown hK hP 0 rfl rfl 7 (by decide) (hT _ q_f_E_31) (fun _ h9 => h9) rfl d_E_anyCross_4 ?_
      refine lv_icmp_ge (tgt := 63) hx hb d_E_anyCross_7 (by decide) (fun c7 => ?_) (fun c7 => ?_)
      · rw [zz_le (by omega) (by omega)] at c7
        refine lv_iconst (v := nI 0) hx hb d_E_anyCross_63 (by decide) ?_
        exact W.zret (v := nI 0) (ty := .boolean) hx hb hr rfl (fun t ht _ => zz_rd (by unfold zE_cross; rw [← hinv, zz_any_end (by omega)]; rfl) ht) (fun _ h => by cases h) d_E_anyCross_64
      · rw [zz_le (by omega) (by omega)] at c7
        refine lv_iload_n hx hb d_E_anyCross_10 rfl (lv_at hl 1 rfl) ?_
        refine lv_iconst (v := nI 1) hx hb d_E_anyCross_11 (by decide) ?_
        refine lv_iadd hx hb d_E_anyCross_12 ?_
        refine zz_top (y := nI (a + 1)) (nI_add a 1) ?_
        refine lv_istore_n (lv' := [(2, .int (nI (a + 1))), (0, .ref aE), (1, .int (nI a))]) hx hb d_E_anyCross_13 rfl hl (by decide) rfl (fun ls hl => ?_)
        have lq : ∀ (fv : Nat) (b : Nat), (b ≤ n) → (a + 1 ≤ b) → (zz_any (zE_x mk vl a) b (n - b) = zz_any (zE_x mk vl a) (a + 1) (n - (a + 1))) → n - b < fv → ∀ (ls : Array Slot), lv_has ls 3 [(0, .ref aE), (1, .int (nI a)), (2, .int (nI b))] → W p l e (headSpec ws_E_anyCross ({ frames := 1, cells := 0, slots := 0, locals := 22 })).room s m ([.ref aE] : List Value).toArray below meth c s.heap [] 0 0 (MQ below (QcRead (nI (zz_b (zE_cross mk vl n)))) ([.ref aE] : List Value).toArray s 0 0 (fun _ => False)) (F0 m 14 ls []) := by
          intro fv
          induction fv with
          | zero => intro b hb9 hb8 hinw hmu; exact absurd hmu (Nat.not_lt_zero _)
          | succ fv ih_lq =>
            intro b hb9 hb8 hinw hmu ls hl
            refine lv_iload_n hx hb d_E_anyCross_14 rfl (lv_at hl 2 rfl) ?_
            refine lv_aload_n hx hb d_E_anyCross_15 rfl (lv_at hl 0 rfl) ?_
            refine va_get (D := D) (ci := 1) (v := .int (nI n)) (C := "DecodeTests$Encodings") (T := F_E) (N := 8) hx hb hT hin_E hown hK hP 0 rfl rfl 7 (by decide) (hT _ q_f_E_31) (fun _ h9 => h9) rfl d_E_anyCross_16 ?_
            refine lv_icmp_ge (tgt := 57) hx hb d_E_anyCross_19 (by decide) (fun c19 => ?_) (fun c19 => ?_)
            · rw [zz_le (by omega) (by omega)] at c19
              have hin9 : zz_any (zE_x mk vl a) (a + 1) (n - (a + 1)) = false := by rw [← hinw]; exact zz_any_end (by omega)
              refine lv_iinc (v := nI (a + 1)) (lv' := [(1, .int (nI (a + 1))), (0, .ref aE), (2, .int (nI b))]) hx hb d_E_anyCross_57 hl (k := 1) rfl (nI_add a 1) (by decide) rfl (fun ls hl => ?_)
              refine lv_goto (tgt := 2) hx hb d_E_anyCross_60 (by decide) ?_
              exact ih_lp (a + 1) (by omega) (by rw [← hinv]; exact zz_any_no (by omega) hin9) (by omega) ls (lv_sub hl [1, 0] rfl)
            · rw [zz_le (by omega) (by omega)] at c19
              refine lv_aload_n hx hb d_E_anyCross_22 rfl (lv_at hl 0 rfl) ?_
              refine lv_iload_n hx hb d_E_anyCross_23 rfl (lv_at hl 1 rfl) ?_
              refine lv_iload_n hx hb d_E_anyCross_24 rfl (lv_at hl 2 rfl) ?_
              refine zz_rV (As := [.int (nI a), .int (nI b)]) (rest := []) (r := nI (zz_b (zE_common mk vl a b))) ⟨hx, hb, hml, hown, hts⟩ (c_E_haveCommonWord l _ _ aE aM aV aL aC aS ww n un mk vl ln cd lz a b (by omega) (by omega) (by omega)) (cwV 2 hts g_E_anyCross_48 rfl rfl rfl k_E_haveCommonWord ⟨show 0 + 1 ≤ 1 by omega, show 8 + (3 + 11) + 0 ≤ 22 by omega⟩) (zz_blind_nx) hK (hP.sub (ws' := [(aE, .inr (1, [.int (nI ww), .ref aM, .ref aV, .ref aL, .ref aC, .ref aS, .int (nI un), .int (nI n)])), (aM, .inl (cA, 14, .inl (fun j => nI (mk j)))), (aV, .inl (cA, 14, .inl (fun j => nI (vl j)))), (aL, .inl (cA, 14, .inl (fun j => nI (ln j)))), (aC, .inl (cA, 14, .inl (fun j => zz_o (cd j)))), (aS, .inl (cA, ww, .inl (fun j => nI (lz j))))]) [0, 1, 2, 3, 4, 5] rfl) (fun _ _ _ => trivial) 1 0 rfl rfl rfl hl.1 rfl (Nat.le_of_ble_eq_true rfl) d_E_anyCross_25 ⟨Nat.zero_le _, Nat.zero_le _⟩ ?_
              refine lv_if_eq (tgt := 51) hx hb d_E_anyCross_28 (by decide) (fun c28 => ?_) (fun c28 => ?_)
              · rw [zz_b0] at c28
                refine lv_iinc (v := nI (b + 1)) (lv' := [(2, .int (nI (b + 1))), (0, .ref aE), (1, .int (nI a))]) hx hb d_E_anyCross_51 hl (k := 2) rfl (nI_add b 1) (by decide) rfl (fun ls hl => ?_)
                refine lv_goto (tgt := 14) hx hb d_E_anyCross_54 (by decide) ?_
                exact ih_lq (b + 1) (by omega) (by omega) (by rw [← hinw]; exact zz_any_no (by omega) (by simp_all [zE_x])) (by omega) ls (lv_sub hl [1, 2, 0] rfl)
              · rw [zz_bn0] at c28
                refine lv_aload_n hx hb d_E_anyCross_31 rfl (lv_at hl 0 rfl) ?_
                refine lv_iload_n hx hb d_E_anyCross_32 rfl (lv_at hl 1 rfl) ?_
                refine lv_iload_n hx hb d_E_anyCross_33 rfl (lv_at hl 2 rfl) ?_
                refine zz_rV (As := [.int (nI a), .int (nI b)]) (rest := []) (r := nI (zz_b (zE_all mk a b))) ⟨hx, hb, hml, hown, hts⟩ (c_E_hasAllOf l _ _ aE aM aV aL aC aS ww n un mk vl ln cd lz a b (by omega) (by omega) (by omega)) (cwV 2 hts g_E_anyCross_51 rfl rfl rfl k_E_hasAllOf ⟨show 0 + 1 ≤ 1 by omega, show 8 + (3 + 11) + 0 ≤ 22 by omega⟩) (zz_blind_nx) hK (hP.sub (ws' := [(aE, .inr (1, [.int (nI ww), .ref aM, .ref aV, .ref aL, .ref aC, .ref aS, .int (nI un), .int (nI n)])), (aM, .inl (cA, 14, .inl (fun j => nI (mk j)))), (aV, .inl (cA, 14, .inl (fun j => nI (vl j)))), (aL, .inl (cA, 14, .inl (fun j => nI (ln j)))), (aC, .inl (cA, 14, .inl (fun j => zz_o (cd j)))), (aS, .inl (cA, ww, .inl (fun j => nI (lz j))))]) [0, 1, 2, 3, 4, 5] rfl) (fun _ _ _ => trivial) 1 0 rfl rfl rfl hl.1 rfl (Nat.le_of_ble_eq_true rfl) d_E_anyCross_34 ⟨Nat.zero_le _, Nat.zero_le _⟩ ?_
                refine lv_if_ne (tgt := 51) hx hb d_E_anyCross_37 (by decide) (fun c37 => ?_) (fun c37 => ?_)
                · rw [zz_bn0] at c37
                  refine lv_iinc (v := nI (b + 1)) (lv' := [(2, .int (nI (b + 1))), (0, .ref aE), (1, .int (nI a))]) hx hb d_E_anyCross_51 hl (k := 2) rfl (nI_add b 1) (by decide) rfl (fun ls hl => ?_)
                  refine lv_goto (tgt := 14) hx hb d_E_anyCross_54 (by decide) ?_
                  exact ih_lq (b + 1) (by omega) (by omega) (by rw [← hinw]; exact zz_any_no (by omega) (by simp_all [zE_x])) (by omega) ls (lv_sub hl [1, 2, 0] rfl)
                · rw [zz_b0] at c37
                  refine lv_aload_n hx hb d_E_anyCross_40 rfl (lv_at hl 0 rfl) ?_
                  refine lv_iload_n hx hb d_E_anyCross_41 rfl (lv_at hl 2 rfl) ?_
                  refine lv_iload_n hx hb d_E_anyCross_42 rfl (lv_at hl 1 rfl) ?_
                  refine zz_rV (As := [.int (nI b), .int (nI a)]) (rest := []) (r := nI (zz_b (zE_all mk b a))) ⟨hx, hb, hml, hown, hts⟩ (c_E_hasAllOf l _ _ aE aM aV aL aC aS ww n un mk vl ln cd lz b a (by omega) (by omega) (by omega)) (cwV 2 hts g_E_anyCross_51 rfl rfl rfl k_E_hasAllOf ⟨show 0 + 1 ≤ 1 by omega, show 8 + (3 + 11) + 0 ≤ 22 by omega⟩) (zz_blind_nx) hK (hP.sub (ws' := [(aE, .inr (1, [.int (nI ww), .ref aM, .ref aV, .ref aL, .ref aC, .ref aS, .int (nI un), .int (nI n)])), (aM, .inl (cA, 14, .inl (fun j => nI (mk j)))), (aV, .inl (cA, 14, .inl (fun j => nI (vl j)))), (aL, .inl (cA, 14, .inl (fun j => nI (ln j)))), (aC, .inl (cA, 14, .inl (fun j => zz_o (cd j)))), (aS, .inl (cA, ww, .inl (fun j => nI (lz j))))]) [0, 1, 2, 3, 4, 5] rfl) (fun _ _ _ => trivial) 1 0 rfl rfl rfl hl.1 rfl (Nat.le_of_ble_eq_true rfl) d_E_anyCross_43 ⟨Nat.zero_le _, Nat.zero_le _⟩ ?_
                  refine lv_if_ne (tgt := 51) hx hb d_E_anyCross_46 (by decide) (fun c46 => ?_) (fun c46 => ?_)
                  · rw [zz_bn0] at c46
                    refine lv_iinc (v := nI (b + 1)) (lv' := [(2, .int (nI (b + 1))), (0, .ref aE), (1, .int (nI a))]) hx hb d_E_anyCross_51 hl (k := 2) rfl (nI_add b 1) (by decide) rfl (fun ls hl => ?_)
                    refine lv_goto (tgt := 14) hx hb d_E_anyCross_54 (by decide) ?_
                    exact ih_lq (b + 1) (by omega) (by omega) (by rw [← hinw]; exact zz_any_no (by omega) (by simp_all [zE_x])) (by omega) ls (lv_sub hl [1, 2, 0] rfl)
                  · rw [zz_b0] at c46
                    refine lv_iconst (v := nI 1) hx hb d_E_anyCross_49 (by decide) ?_
                    exact W.zret (v := nI 1) (ty := .boolean) hx hb hr rfl (fun t ht _ => zz_rd (by unfold zE_cross; rw [← hinv, zz_any_yes (by omega) (by rw [← hinw]; exact zz_any_yes (by omega) (by simp_all [zE_x]))]; rfl) ht) (fun _ h => by cases h) d_E_anyCross_50
        exact lq ((n - (a + 1)) + 1) (a + 1) (by omega) (by omega) rfl (Nat.lt_succ_self _) ls (lv_sub hl [1, 2, 0] rfl)
  exact lp (n + 1) 0 (by omega) (by rw [Nat.sub_zero]) (Nat.lt_succ_self _) ls (lv_sub hl [1, 0] rfl)
