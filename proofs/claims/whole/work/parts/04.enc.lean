set_option maxHeartbeats 4000000 in
set_option maxRecDepth 100000 in
/-- how many encodings -/
theorem c_E_size (l : Launch) (D : va_G) (cA : ClassId) (aE : Nat) (aM : Nat) (aV : Nat) (aL : Nat) (aC : Nat) (aS : Nat) (ww : Nat) (n : Nat) (un : Nat) (mk : Nat → Nat) (vl : Nat → Nat) (ln : Nat → Nat) (cd : Nat → Nat) (lz : Nat → Nat) (hE : zE_ok ww n un mk vl ln cd lz) : Met l y_E_size ws_E_size ({ frames := 0, cells := 0, slots := 0, locals := 0 }) (va_Pc [.ref aE] (zz_pre D vwCl [(cA, .int)] [(aE, .inr (1, [.int (nI ww), .ref aM, .ref aV, .ref aL, .ref aC, .ref aS, .int (nI un), .int (nI n)])), (aM, .inl (cA, 14, .inl (fun j => nI (mk j)))), (aV, .inl (cA, 14, .inl (fun j => nI (vl j)))), (aL, .inl (cA, 14, .inl (fun j => nI (ln j)))), (aC, .inl (cA, 14, .inl (fun j => zz_o (cd j)))), (aS, .inl (cA, ww, .inl (fun j => nI (lz j))))] zz_nx)) (QcRead (nI n)) 0 0 (fun _ => False) := by
  refine Met.ofW (cc := b_E_size) (maxL := 1) (ret := (some .int)) (by decide) rfl ?_
  intro p e s m args below meth c s₁ B hml hv
  obtain ⟨rfl, hP, hK, hX⟩ := hv
  have hS : va_S (fun _ => False) s.heap s.heap [] := va_S.rf
  have hx := B.exec
  have hb := B.bytes
  have hr := B.returns
  have hts := atoms_spec (ws := ws_E_size) B.pre
  have hown : s.vm.findClass "DecodeTests$Encodings" = some m.cls := findClass_of_methodNamed B.named
  have hlocks := B.notSynchronized
  have hT : ∀ w ∈ zz_T, w.before ([.ref aE] : List Value).toArray s = true := fun w h => hts w (List.mem_cons_of_mem _ h)
  have hl := lv_entry ([.ref aE]) (n := 1) (Nat.le_of_ble_eq_true rfl)
  rw [lg_entry_eq]
  generalize (lg_sl ([.ref aE]) ++ List.replicate (1 - (lg_sl ([.ref aE])).length) Slot.unset).toArray = ls at hl ⊢
  have hl : lv_has ls 1 [(0, .ref aE)] := hl
  obtain ⟨hww, hn, hun, hmk, hvl, hln, hcd, hlz⟩ := id hE
  refine lv_aload_n hx hb d_E_size_0 rfl (lv_at hl 0 rfl) ?_
  refine va_get (D := D) (ci := 1) (v := .int (nI n)) (C := "DecodeTests$Encodings") (T := F_E) (N := 8) hx hb hT hin_E hown hK hP 0 rfl rfl 7 (by decide) (hT _ q_f_E_31) (fun _ h9 => h9) rfl d_E_size_1 ?_
  exact W.iret (v := nI n) hx hb hr (fun t ht _ => zz_rd (rfl) ht) (fun _ h => by cases h) d_E_size_4

set_option maxHeartbeats 4000000 in
set_option maxRecDepth 100000 in
theorem c_E_lengthOf (l : Launch) (D : va_G) (cA : ClassId) (aE : Nat) (aM : Nat) (aV : Nat) (aL : Nat) (aC : Nat) (aS : Nat) (ww : Nat) (n : Nat) (un : Nat) (mk : Nat → Nat) (vl : Nat → Nat) (ln : Nat → Nat) (cd : Nat → Nat) (lz : Nat → Nat) (k : Nat) (hE : zE_ok ww n un mk vl ln cd lz) (hk : k < 14) : Met l y_E_lengthOf ws_E_lengthOf ({ frames := 0, cells := 0, slots := 0, locals := 0 }) (va_Pc [.ref aE, .int (nI k)] (zz_pre D vwCl [(cA, .int)] [(aE, .inr (1, [.int (nI ww), .ref aM, .ref aV, .ref aL, .ref aC, .ref aS, .int (nI un), .int (nI n)])), (aM, .inl (cA, 14, .inl (fun j => nI (mk j)))), (aV, .inl (cA, 14, .inl (fun j => nI (vl j)))), (aL, .inl (cA, 14, .inl (fun j => nI (ln j)))), (aC, .inl (cA, 14, .inl (fun j => zz_o (cd j)))), (aS, .inl (cA, ww, .inl (fun j => nI (lz j))))] zz_nx)) (QcRead (nI (ln k))) 0 0 (fun _ => False) := by
  refine Met.ofW (cc := b_E_lengthOf) (maxL := 2) (ret := (some .int)) (by decide) rfl ?_
  intro p e s m args below meth c s₁ B hml hv
  obtain ⟨rfl, hP, hK, hX⟩ := hv
  have hS : va_S (fun _ => False) s.heap s.heap [] := va_S.rf
  have hx := B.exec
  have hb := B.bytes
  have hr := B.returns
  have hts := atoms_spec (ws := ws_E_lengthOf) B.pre
  have hown : s.vm.findClass "DecodeTests$Encodings" = some m.cls := findClass_of_methodNamed B.named
  have hlocks := B.notSynchronized
  have hT : ∀ w ∈ zz_T, w.before ([.ref aE, .int (nI k)] : List Value).toArray s = true := fun w h => hts w (List.mem_cons_of_mem _ h)
  have hl := lv_entry ([.ref aE, .int (nI k)]) (n := 2) (Nat.le_of_ble_eq_true rfl)
  rw [lg_entry_eq]
  generalize (lg_sl ([.ref aE, .int (nI k)]) ++ List.replicate (2 - (lg_sl ([.ref aE, .int (nI k)])).length) Slot.unset).toArray = ls at hl ⊢
  have hl : lv_has ls 2 [(0, .ref aE), (1, .int (nI k))] := hl
  obtain ⟨hww, hn, hun, hmk, hvl, hln, hcd, hlz⟩ := id hE
  refine lv_aload_n hx hb d_E_lengthOf_0 rfl (lv_at hl 0 rfl) ?_
  refine va_get (D := D) (ci := 1) (v := .ref aL) (C := "DecodeTests$Encodings") (T := F_E) (N := 8) hx hb hT hin_E hown hK hP 0 rfl rfl 3 (by decide) (hT _ q_f_E_18) (fun _ h9 => h9) rfl d_E_lengthOf_1 ?_
  refine lv_iload_n hx hb d_E_lengthOf_4 rfl (lv_at hl 1 rfl) ?_
  refine zz_iald hx hb hK hP 3 0 rfl rfl (j := k) (by omega) (by omega) d_E_lengthOf_5 ?_
  refine zz_top (y := nI (ln k)) rfl ?_
  exact W.iret (v := nI (ln k)) hx hb hr (fun t ht _ => zz_rd (rfl) ht) (fun _ h => by cases h) d_E_lengthOf_6

set_option maxHeartbeats 4000000 in
set_option maxRecDepth 100000 in
theorem c_E_listFor (l : Launch) (D : va_G) (cA : ClassId) (aE : Nat) (aM : Nat) (aV : Nat) (aL : Nat) (aC : Nat) (aS : Nat) (ww : Nat) (n : Nat) (un : Nat) (mk : Nat → Nat) (vl : Nat → Nat) (ln : Nat → Nat) (cd : Nat → Nat) (lz : Nat → Nat) (w : Nat) (hE : zE_ok ww n un mk vl ln cd lz) (hw : w < ww) : Met l y_E_listFor ws_E_listFor ({ frames := 0, cells := 0, slots := 0, locals := 0 }) (va_Pc [.ref aE, .int (nI w)] (zz_pre D vwCl [(cA, .int)] [(aE, .inr (1, [.int (nI ww), .ref aM, .ref aV, .ref aL, .ref aC, .ref aS, .int (nI un), .int (nI n)])), (aM, .inl (cA, 14, .inl (fun j => nI (mk j)))), (aV, .inl (cA, 14, .inl (fun j => nI (vl j)))), (aL, .inl (cA, 14, .inl (fun j => nI (ln j)))), (aC, .inl (cA, 14, .inl (fun j => zz_o (cd j)))), (aS, .inl (cA, ww, .inl (fun j => nI (lz j))))] zz_nx)) (QcRead (nI (lz w))) 0 0 (fun _ => False) := by
  refine Met.ofW (cc := b_E_listFor) (maxL := 2) (ret := (some .int)) (by decide) rfl ?_
  intro p e s m args below meth c s₁ B hml hv
  obtain ⟨rfl, hP, hK, hX⟩ := hv
  have hS : va_S (fun _ => False) s.heap s.heap [] := va_S.rf
  have hx := B.exec
  have hb := B.bytes
  have hr := B.returns
  have hts := atoms_spec (ws := ws_E_listFor) B.pre
  have hown : s.vm.findClass "DecodeTests$Encodings" = some m.cls := findClass_of_methodNamed B.named
  have hlocks := B.notSynchronized
  have hT : ∀ w ∈ zz_T, w.before ([.ref aE, .int (nI w)] : List Value).toArray s = true := fun w h => hts w (List.mem_cons_of_mem _ h)
  have hl := lv_entry ([.ref aE, .int (nI w)]) (n := 2) (Nat.le_of_ble_eq_true rfl)
  rw [lg_entry_eq]
  generalize (lg_sl ([.ref aE, .int (nI w)]) ++ List.replicate (2 - (lg_sl ([.ref aE, .int (nI w)])).length) Slot.unset).toArray = ls at hl ⊢
  have hl : lv_has ls 2 [(0, .ref aE), (1, .int (nI w))] := hl
  obtain ⟨hww, hn, hun, hmk, hvl, hln, hcd, hlz⟩ := id hE
  refine lv_aload_n hx hb d_E_listFor_0 rfl (lv_at hl 0 rfl) ?_
  refine va_get (D := D) (ci := 1) (v := .ref aS) (C := "DecodeTests$Encodings") (T := F_E) (N := 8) hx hb hT hin_E hown hK hP 0 rfl rfl 5 (by decide) (hT _ q_f_E_28) (fun _ h9 => h9) rfl d_E_listFor_1 ?_
  refine lv_iload_n hx hb d_E_listFor_4 rfl (lv_at hl 1 rfl) ?_
  refine zz_iald hx hb hK hP 5 0 rfl rfl (j := w) (by omega) (by omega) d_E_listFor_5 ?_
  refine zz_top (y := nI (lz w)) rfl ?_
  exact W.iret (v := nI (lz w)) hx hb hr (fun t ht _ => zz_rd (rfl) ht) (fun _ h => by cases h) d_E_listFor_6

set_option maxHeartbeats 4000000 in
set_option maxRecDepth 100000 in
theorem c_E_fits (l : Launch) (D : va_G) (cA : ClassId) (aE : Nat) (aM : Nat) (aV : Nat) (aL : Nat) (aC : Nat) (aS : Nat) (ww : Nat) (n : Nat) (un : Nat) (mk : Nat → Nat) (vl : Nat → Nat) (ln : Nat → Nat) (cd : Nat → Nat) (lz : Nat → Nat) (k : Nat) (w : Nat) (hE : zE_ok ww n un mk vl ln cd lz) (hk : k < 14) (hw : w < 256) : Met l y_E_fits ws_E_fits ({ frames := 0, cells := 0, slots := 0, locals := 0 }) (va_Pc [.ref aE, .int (nI k), .int (nI w)] (zz_pre D vwCl [(cA, .int)] [(aE, .inr (1, [.int (nI ww), .ref aM, .ref aV, .ref aL, .ref aC, .ref aS, .int (nI un), .int (nI n)])), (aM, .inl (cA, 14, .inl (fun j => nI (mk j)))), (aV, .inl (cA, 14, .inl (fun j => nI (vl j)))), (aL, .inl (cA, 14, .inl (fun j => nI (ln j)))), (aC, .inl (cA, 14, .inl (fun j => zz_o (cd j)))), (aS, .inl (cA, ww, .inl (fun j => nI (lz j))))] zz_nx)) (QcRead (nI (zz_b (zE_fit mk vl w k)))) 0 0 (fun _ => False) := by
  refine Met.ofW (cc := b_E_fits) (maxL := 3) (ret := (some .boolean)) (by decide) rfl ?_
  intro p e s m args below meth c s₁ B hml hv
  obtain ⟨rfl, hP, hK, hX⟩ := hv
  have hS : va_S (fun _ => False) s.heap s.heap [] := va_S.rf
  have hx := B.exec
  have hb := B.bytes
  have hr := B.returns
  have hts := atoms_spec (ws := ws_E_fits) B.pre
  have hown : s.vm.findClass "DecodeTests$Encodings" = some m.cls := findClass_of_methodNamed B.named
  have hlocks := B.notSynchronized
  have hT : ∀ w ∈ zz_T, w.before ([.ref aE, .int (nI k), .int (nI w)] : List Value).toArray s = true := fun w h => hts w (List.mem_cons_of_mem _ h)
  have hl := lv_entry ([.ref aE, .int (nI k), .int (nI w)]) (n := 3) (Nat.le_of_ble_eq_true rfl)
  rw [lg_entry_eq]
  generalize (lg_sl ([.ref aE, .int (nI k), .int (nI w)]) ++ List.replicate (3 - (lg_sl ([.ref aE, .int (nI k), .int (nI w)])).length) Slot.unset).toArray = ls at hl ⊢
  have hl : lv_has ls 3 [(0, .ref aE), (1, .int (nI k)), (2, .int (nI w))] := hl
  obtain ⟨hww, hn, hun, hmk, hvl, hln, hcd, hlz⟩ := id hE
  have b1 : w &&& mk k < 256 := zz_and_lt (hmk k)
  have b2 := hvl k
  refine lv_iload_n hx hb d_E_fits_0 rfl (lv_at hl 2 rfl) ?_
  refine lv_aload_n hx hb d_E_fits_1 rfl (lv_at hl 0 rfl) ?_
  refine va_get (D := D) (ci := 1) (v := .ref aM) (C := "DecodeTests$Encodings") (T := F_E) (N := 8) hx hb hT hin_E hown hK hP 0 rfl rfl 1 (by decide) (hT _ q_f_E_9) (fun _ h9 => h9) rfl d_E_fits_2 ?_
  refine lv_iload_n hx hb d_E_fits_5 rfl (lv_at hl 1 rfl) ?_
  refine zz_iald hx hb hK hP 1 0 rfl rfl (j := k) (by omega) (by omega) d_E_fits_6 ?_
  refine zz_top (y := nI (mk k)) rfl ?_
  refine lv_iand hx hb d_E_fits_7 ?_
  refine zz_top (y := nI (w &&& (mk k))) (zz_and w (mk k)) ?_
  refine lv_aload_n hx hb d_E_fits_8 rfl (lv_at hl 0 rfl) ?_
  refine va_get (D := D) (ci := 1) (v := .ref aV) (C := "DecodeTests$Encodings") (T := F_E) (N := 8) hx hb hT hin_E hown hK hP 0 rfl rfl 2 (by decide) (hT _ q_f_E_15) (fun _ h9 => h9) rfl d_E_fits_9 ?_
  refine lv_iload_n hx hb d_E_fits_12 rfl (lv_at hl 1 rfl) ?_
  refine zz_iald hx hb hK hP 2 0 rfl rfl (j := k) (by omega) (by omega) d_E_fits_13 ?_
  refine zz_top (y := nI (vl k)) rfl ?_
  refine lv_icmp_ne (tgt := 21) hx hb d_E_fits_14 (by decide) (fun c14 => ?_) (fun c14 => ?_)
  · rw [zz_eq (by omega) (by omega)] at c14
    refine lv_iconst (v := nI 0) hx hb d_E_fits_21 (by decide) ?_
    exact W.zret (v := nI 0) (ty := .boolean) hx hb hr rfl (fun t ht _ => zz_rd (by simp [zE_fit, zz_b, c14]) ht) (fun _ h => by cases h) d_E_fits_22
  · rw [zz_eq (by omega) (by omega)] at c14
    refine lv_iconst (v := nI 1) hx hb d_E_fits_17 (by decide) ?_
    refine lv_goto (tgt := 22) hx hb d_E_fits_18 (by decide) ?_
    exact W.zret (v := nI 1) (ty := .boolean) hx hb hr rfl (fun t ht _ => zz_rd (by simp [zE_fit, zz_b, c14]) ht) (fun _ h => by cases h) d_E_fits_22

set_option maxHeartbeats 4000000 in
set_option maxRecDepth 100000 in
theorem c_E_isOpen (l : Launch) (D : va_G) (cA : ClassId) (aE : Nat) (aM : Nat) (aV : Nat) (aL : Nat) (aC : Nat) (aS : Nat) (ww : Nat) (n : Nat) (un : Nat) (mk : Nat → Nat) (vl : Nat → Nat) (ln : Nat → Nat) (cd : Nat → Nat) (lz : Nat → Nat) (k : Nat) (fl : Nat) (hE : zE_ok ww n un mk vl ln cd lz) (hk : k < 14) (hf : fl < 256) : Met l y_E_isOpen ws_E_isOpen ({ frames := 0, cells := 0, slots := 0, locals := 0 }) (va_Pc [.ref aE, .int (nI k), .int (nI fl)] (zz_pre D vwCl [(cA, .int)] [(aE, .inr (1, [.int (nI ww), .ref aM, .ref aV, .ref aL, .ref aC, .ref aS, .int (nI un), .int (nI n)])), (aM, .inl (cA, 14, .inl (fun j => nI (mk j)))), (aV, .inl (cA, 14, .inl (fun j => nI (vl j)))), (aL, .inl (cA, 14, .inl (fun j => nI (ln j)))), (aC, .inl (cA, 14, .inl (fun j => zz_o (cd j)))), (aS, .inl (cA, ww, .inl (fun j => nI (lz j))))] zz_nx)) (QcRead (nI (zz_b (zE_open cd fl k)))) 0 0 (fun _ => False) := by
  refine Met.ofW (cc := b_E_isOpen) (maxL := 4) (ret := (some .boolean)) (by decide) rfl ?_
  intro p e s m args below meth c s₁ B hml hv
  obtain ⟨rfl, hP, hK, hX⟩ := hv
  have hS : va_S (fun _ => False) s.heap s.heap [] := va_S.rf
  have hx := B.exec
  have hb := B.bytes
  have hr := B.returns
  have hts := atoms_spec (ws := ws_E_isOpen) B.pre
  have hown : s.vm.findClass "DecodeTests$Encodings" = some m.cls := findClass_of_methodNamed B.named
  have hlocks := B.notSynchronized
  have hT : ∀ w ∈ zz_T, w.before ([.ref aE, .int (nI k), .int (nI fl)] : List Value).toArray s = true := fun w h => hts w (List.mem_cons_of_mem _ h)
  have hl := lv_entry ([.ref aE, .int (nI k), .int (nI fl)]) (n := 4) (Nat.le_of_ble_eq_true rfl)
  rw [lg_entry_eq]
  generalize (lg_sl ([.ref aE, .int (nI k), .int (nI fl)]) ++ List.replicate (4 - (lg_sl ([.ref aE, .int (nI k), .int (nI fl)])).length) Slot.unset).toArray = ls at hl ⊢
  have hl : lv_has ls 4 [(0, .ref aE), (1, .int (nI k)), (2, .int (nI fl))] := hl
  obtain ⟨hww, hn, hun, hmk, hvl, hln, hcd, hlz⟩ := id hE
  have b1 := hcd k
  refine lv_aload_n hx hb d_E_isOpen_0 rfl (lv_at hl 0 rfl) ?_
  refine va_get (D := D) (ci := 1) (v := .ref aC) (C := "DecodeTests$Encodings") (T := F_E) (N := 8) hx hb hT hin_E hown hK hP 0 rfl rfl 4 (by decide) (hT _ q_f_E_21) (fun _ h9 => h9) rfl d_E_isOpen_1 ?_
  refine lv_iload_n hx hb d_E_isOpen_4 rfl (lv_at hl 1 rfl) ?_
  refine zz_iald hx hb hK hP 4 0 rfl rfl (j := k) (by omega) (by omega) d_E_isOpen_5 ?_
  refine zz_top (y := zz_o (cd k)) rfl ?_
  refine lv_istore_n (lv' := [(3, .int (zz_o (cd k))), (0, .ref aE), (1, .int (nI k)), (2, .int (nI fl))]) hx hb d_E_isOpen_6 rfl hl (by decide) rfl (fun ls hl => ?_)
  refine lv_iload_n hx hb d_E_isOpen_7 rfl (lv_at hl 0 rfl) ?_
  refine lv_iconst (v := -1) hx hb d_E_isOpen_8 (by decide) ?_
  refine lv_icmp_eq (tgt := 21) hx hb d_E_isOpen_9 (by decide) (fun c9 => ?_) (fun c9 => ?_)
  · rw [zz_o_none (by omega)] at c9
    refine lv_iconst (v := nI 1) hx hb d_E_isOpen_21 (by decide) ?_
    refine lv_goto (tgt := 26) hx hb d_E_isOpen_22 (by decide) ?_
    exact W.zret (v := nI 1) (ty := .boolean) hx hb hr rfl (fun t ht _ => zz_rd (zE_open_r (by assumption)) ht) (fun _ h => by cases h) d_E_isOpen_26
  · rw [zz_o_none (by omega)] at c9
    refine lv_iload_n hx hb d_E_isOpen_12 rfl (lv_at hl 3 rfl) ?_
    refine lv_iload_n hx hb d_E_isOpen_13 rfl (lv_at hl 0 rfl) ?_
    refine zz_top (y := nI (cd k - 1)) (zz_o_p c9) ?_
    refine lv_ishr hx hb d_E_isOpen_14 ?_
    refine zz_top (y := nI (fl / 2 ^ (cd k - 1))) (zz_shr (by omega) (by omega)) ?_
    refine lv_iconst (v := nI 1) hx hb d_E_isOpen_15 (by decide) ?_
    refine lv_iand hx hb d_E_isOpen_16 ?_
    refine zz_top (y := nI ((fl / 2 ^ (cd k - 1)) &&& 1)) (zz_and (fl / 2 ^ (cd k - 1)) 1) ?_
    refine lv_iconst (v := nI 1) hx hb d_E_isOpen_17 (by decide) ?_
    refine lv_icmp_ne (tgt := 25) hx hb d_E_isOpen_18 (by decide) (fun c18 => ?_) (fun c18 => ?_)
    · rw [zz_eq (by omega) (by omega)] at c18
      refine lv_iconst (v := nI 0) hx hb d_E_isOpen_25 (by decide) ?_
      exact W.zret (v := nI 0) (ty := .boolean) hx hb hr rfl (fun t ht _ => zz_rd (zE_open_r (by assumption)) ht) (fun _ h => by cases h) d_E_isOpen_26
    · rw [zz_eq (by omega) (by omega)] at c18
      refine lv_iconst (v := nI 1) hx hb d_E_isOpen_21 (by decide) ?_
      refine lv_goto (tgt := 26) hx hb d_E_isOpen_22 (by decide) ?_
      exact W.zret (v := nI 1) (ty := .boolean) hx hb hr rfl (fun t ht _ => zz_rd (zE_open_r (by assumption)) ht) (fun _ h => by cases h) d_E_isOpen_26
