set_option maxHeartbeats 4000000 in
set_option maxRecDepth 100000 in
theorem c_K_size (l : Launch) (D : va_G) (cA : ClassId) (aK : Nat) (aKw : Nat) (aKf : Nat) (aKa : Nat) (kn : Nat) (kw : Nat → Nat) (kf : Nat → Nat) (ka : Nat → Nat) : Met l y_K_size ws_K_size ({ frames := 0, cells := 0, slots := 0, locals := 0 }) (va_Pc [.ref aK] (zz_pre D vwCl [(cA, .int)] [(aK, .inr (2, [.ref aKw, .ref aKf, .ref aKa, .int (nI kn)])), (aKw, .inl (cA, 16, .inl (fun j => zz_o (kw j)))), (aKf, .inl (cA, 16, .inl (fun j => nI (kf j)))), (aKa, .inl (cA, 16, .inl (fun j => zz_o (ka j))))] zz_nx)) (QcRead (nI kn)) 0 0 (fun _ => False) := by
  refine Met.ofW (cc := b_K_size) (maxL := 1) (ret := (some .int)) (by decide) rfl ?_
  intro p e s m args below meth c s₁ B hml hv
  obtain ⟨rfl, hP, hK, hX⟩ := hv
  have hS : va_S (fun _ => False) s.heap s.heap [] := va_S.rf
  have hx := B.exec
  have hb := B.bytes
  have hr := B.returns
  have hts := atoms_spec (ws := ws_K_size) B.pre
  have hown : s.vm.findClass "DecodeTests$Kept" = some m.cls := findClass_of_methodNamed B.named
  have hlocks := B.notSynchronized
  have hT : ∀ w9 ∈ zz_T, w9.before ([.ref aK] : List Value).toArray s = true := fun w9 h => hts w9 (List.mem_cons_of_mem _ h)
  have hl := lv_entry ([.ref aK]) (n := 1) (Nat.le_of_ble_eq_true rfl)
  rw [lg_entry_eq]
  generalize (lg_sl ([.ref aK]) ++ List.replicate (1 - (lg_sl ([.ref aK])).length) Slot.unset).toArray = ls at hl ⊢
  have hl : lv_has ls 1 [(0, .ref aK)] := hl
  refine lv_aload_n hx hb d_K_size_0 rfl (lv_at hl 0 rfl) ?_
  refine va_get (D := D) (ci := 2) (v := .int (nI kn)) (C := "DecodeTests$Kept") (T := F_K) (N := 4) hx hb hT hin_K hown hK hP 0 rfl rfl 3 (by decide) (hT _ q_f_K_24) (fun _ h9 => h9) rfl d_K_size_1 ?_
  exact W.iret (v := nI kn) hx hb hr (fun t ht _ => zz_rd (rfl) ht) (fun _ h => by cases h) d_K_size_4

set_option maxHeartbeats 4000000 in
set_option maxRecDepth 100000 in
theorem c_K_rowOf (l : Launch) (D : va_G) (cA : ClassId) (w : Nat) : Met l y_K_rowOf ws_K_rowOf ({ frames := 0, cells := 0, slots := 0, locals := 0 }) (va_Pc [.int (nI w)] (zz_pre D vwCl [(cA, .int)] [] zz_nx)) (QcRead (nI (w &&& 15))) 0 0 (fun _ => False) := by
  refine Met.ofW (cc := b_K_rowOf) (maxL := 1) (ret := (some .int)) (by decide) rfl ?_
  intro p e s m args below meth c s₁ B hml hv
  obtain ⟨rfl, hP, hK, hX⟩ := hv
  have hS : va_S (fun _ => False) s.heap s.heap [] := va_S.rf
  have hx := B.exec
  have hb := B.bytes
  have hr := B.returns
  have hts := atoms_spec (ws := ws_K_rowOf) B.pre
  have hown : s.vm.findClass "DecodeTests$Kept" = some m.cls := findClass_of_methodNamed B.named
  have hlocks := B.notSynchronized
  have hT : ∀ w9 ∈ zz_T, w9.before ([.int (nI w)] : List Value).toArray s = true := fun w9 h => hts w9 (List.mem_cons_of_mem _ h)
  have hl := lv_entry ([.int (nI w)]) (n := 1) (Nat.le_of_ble_eq_true rfl)
  rw [lg_entry_eq]
  generalize (lg_sl ([.int (nI w)]) ++ List.replicate (1 - (lg_sl ([.int (nI w)])).length) Slot.unset).toArray = ls at hl ⊢
  have hl : lv_has ls 1 [(0, .int (nI w))] := hl
  refine lv_iload_n hx hb d_K_rowOf_0 rfl (lv_at hl 0 rfl) ?_
  refine lv_bipush (v := nI 15) hx hb d_K_rowOf_1 (by decide) ?_
  refine lv_iand hx hb d_K_rowOf_3 ?_
  refine zz_top (y := nI (w &&& 15)) (zz_and w 15) ?_
  exact W.iret (v := nI (w &&& 15)) hx hb hr (fun t ht _ => zz_rd (rfl) ht) (fun _ h => by cases h) d_K_rowOf_4

set_option maxHeartbeats 4000000 in
set_option maxRecDepth 100000 in
theorem c_K_holds (l : Launch) (D : va_G) (cA : ClassId) (aK : Nat) (aKw : Nat) (aKf : Nat) (aKa : Nat) (kn : Nat) (kw : Nat → Nat) (kf : Nat → Nat) (ka : Nat → Nat) (w : Nat) (fl : Nat) (hK0 : zK_ok kw kf ka kn) (hw : w < 256) (hfl : fl < 256) : Met l y_K_holds ws_K_holds ({ frames := 1, cells := 0, slots := 0, locals := 20 }) (va_Pc [.ref aK, .int (nI w), .int (nI fl)] (zz_pre D vwCl [(cA, .int)] [(aK, .inr (2, [.ref aKw, .ref aKf, .ref aKa, .int (nI kn)])), (aKw, .inl (cA, 16, .inl (fun j => zz_o (kw j)))), (aKf, .inl (cA, 16, .inl (fun j => nI (kf j)))), (aKa, .inl (cA, 16, .inl (fun j => zz_o (ka j))))] zz_nx)) (QcRead (nI (zz_b (zK_holds kw kf w fl)))) 0 0 (fun _ => False) := by
  refine Met.ofW (cc := b_K_holds) (maxL := 4) (ret := (some .boolean)) (by decide) rfl ?_
  intro p e s m args below meth c s₁ B hml hv
  obtain ⟨rfl, hP, hK, hX⟩ := hv
  have hS : va_S (fun _ => False) s.heap s.heap [] := va_S.rf
  have hx := B.exec
  have hb := B.bytes
  have hr := B.returns
  have hts := atoms_spec (ws := ws_K_holds) B.pre
  have hown : s.vm.findClass "DecodeTests$Kept" = some m.cls := findClass_of_methodNamed B.named
  have hlocks := B.notSynchronized
  have hT : ∀ w9 ∈ zz_T, w9.before ([.ref aK, .int (nI w), .int (nI fl)] : List Value).toArray s = true := fun w9 h => hts w9 (List.mem_cons_of_mem _ h)
  have hl := lv_entry ([.ref aK, .int (nI w), .int (nI fl)]) (n := 4) (Nat.le_of_ble_eq_true rfl)
  rw [lg_entry_eq]
  generalize (lg_sl ([.ref aK, .int (nI w), .int (nI fl)]) ++ List.replicate (4 - (lg_sl ([.ref aK, .int (nI w), .int (nI fl)])).length) Slot.unset).toArray = ls at hl ⊢
  have hl : lv_has ls 4 [(0, .ref aK), (1, .int (nI w)), (2, .int (nI fl))] := hl
  obtain ⟨hkn, hkw, hkf, hka⟩ := id hK0
  have hr16 : w &&& 15 < 16 := zz_and_lt (by omega)
  have b1 := hkw (w &&& 15)
  have b2 := hkf (w &&& 15)
  refine lv_iload_n hx hb d_K_holds_0 rfl (lv_at hl 1 rfl) ?_
  refine zz_rS (As := [.int (nI w)]) (rest := []) (r := nI (w &&& 15)) ⟨hx, hb, hml, hown, hts⟩ (c_K_rowOf l _ _ w) (va_cwS 1 hts g_K_holds_28 rfl rfl rfl k_K_rowOf.2 ⟨show 0 + 1 ≤ 1 by omega, show 8 + (1 + 11) + 0 ≤ 20 by omega⟩) (zz_blind_nx) hK (hP.sub (ws' := []) [] rfl) (fun _ _ _ => trivial) rfl hl.1 rfl (Nat.le_of_ble_eq_true rfl) d_K_holds_1 ⟨Nat.zero_le _, Nat.zero_le _⟩ ?_
  refine lv_istore_n (lv' := [(3, .int (nI (w &&& 15))), (0, .ref aK), (1, .int (nI w)), (2, .int (nI fl))]) hx hb d_K_holds_4 rfl hl (by decide) rfl (fun ls hl => ?_)
  refine lv_aload_n hx hb d_K_holds_5 rfl (lv_at hl 1 rfl) ?_
  refine va_get (D := D) (ci := 2) (v := .ref aKw) (C := "DecodeTests$Kept") (T := F_K) (N := 4) hx hb hT hin_K hown hK hP 0 rfl rfl 0 (by decide) (hT _ q_f_K_9) (fun _ h9 => h9) rfl d_K_holds_6 ?_
  refine lv_iload_n hx hb d_K_holds_9 rfl (lv_at hl 0 rfl) ?_
  refine zz_iald hx hb hK hP 1 0 rfl rfl (j := w &&& 15) (by omega) (by omega) d_K_holds_10 ?_
  refine zz_top (y := zz_o (kw (w &&& 15))) rfl ?_
  refine lv_iload_n hx hb d_K_holds_11 rfl (lv_at hl 2 rfl) ?_
  refine lv_icmp_ne (tgt := 29) hx hb d_K_holds_12 (by decide) (fun c12 => ?_) (fun c12 => ?_)
  · rw [zz_o_n (by omega) (by omega)] at c12
    refine lv_iconst (v := nI 0) hx hb d_K_holds_29 (by decide) ?_
    exact W.zret (v := nI 0) (ty := .boolean) hx hb hr rfl (fun t ht _ => zz_rd (by simp_all [zK_holds, zz_b]) ht) (fun _ h => by cases h) d_K_holds_30
  · rw [zz_o_n (by omega) (by omega)] at c12
    refine lv_aload_n hx hb d_K_holds_15 rfl (lv_at hl 1 rfl) ?_
    refine va_get (D := D) (ci := 2) (v := .ref aKf) (C := "DecodeTests$Kept") (T := F_K) (N := 4) hx hb hT hin_K hown hK hP 0 rfl rfl 1 (by decide) (hT _ q_f_K_15) (fun _ h9 => h9) rfl d_K_holds_16 ?_
    refine lv_iload_n hx hb d_K_holds_19 rfl (lv_at hl 0 rfl) ?_
    refine zz_iald hx hb hK hP 2 0 rfl rfl (j := w &&& 15) (by omega) (by omega) d_K_holds_20 ?_
    refine zz_top (y := nI (kf (w &&& 15))) rfl ?_
    refine lv_iload_n hx hb d_K_holds_21 rfl (lv_at hl 3 rfl) ?_
    refine lv_icmp_ne (tgt := 29) hx hb d_K_holds_22 (by decide) (fun c22 => ?_) (fun c22 => ?_)
    · rw [zz_eq (by omega) (by omega)] at c22
      refine lv_iconst (v := nI 0) hx hb d_K_holds_29 (by decide) ?_
      exact W.zret (v := nI 0) (ty := .boolean) hx hb hr rfl (fun t ht _ => zz_rd (by simp_all [zK_holds, zz_b]) ht) (fun _ h => by cases h) d_K_holds_30
    · rw [zz_eq (by omega) (by omega)] at c22
      refine lv_iconst (v := nI 1) hx hb d_K_holds_25 (by decide) ?_
      refine lv_goto (tgt := 30) hx hb d_K_holds_26 (by decide) ?_
      exact W.zret (v := nI 1) (ty := .boolean) hx hb hr rfl (fun t ht _ => zz_rd (by simp_all [zK_holds, zz_b]) ht) (fun _ h => by cases h) d_K_holds_30

set_option maxHeartbeats 4000000 in
set_option maxRecDepth 100000 in
theorem c_K_answerOf (l : Launch) (D : va_G) (cA : ClassId) (aK : Nat) (aKw : Nat) (aKf : Nat) (aKa : Nat) (kn : Nat) (kw : Nat → Nat) (kf : Nat → Nat) (ka : Nat → Nat) (w : Nat) (hw : w < 256) : Met l y_K_answerOf ws_K_answerOf ({ frames := 1, cells := 0, slots := 0, locals := 20 }) (va_Pc [.ref aK, .int (nI w)] (zz_pre D vwCl [(cA, .int)] [(aK, .inr (2, [.ref aKw, .ref aKf, .ref aKa, .int (nI kn)])), (aKw, .inl (cA, 16, .inl (fun j => zz_o (kw j)))), (aKf, .inl (cA, 16, .inl (fun j => nI (kf j)))), (aKa, .inl (cA, 16, .inl (fun j => zz_o (ka j))))] zz_nx)) (QcRead (zz_o (ka (w &&& 15)))) 0 0 (fun _ => False) := by
  refine Met.ofW (cc := b_K_answerOf) (maxL := 2) (ret := (some .int)) (by decide) rfl ?_
  intro p e s m args below meth c s₁ B hml hv
  obtain ⟨rfl, hP, hK, hX⟩ := hv
  have hS : va_S (fun _ => False) s.heap s.heap [] := va_S.rf
  have hx := B.exec
  have hb := B.bytes
  have hr := B.returns
  have hts := atoms_spec (ws := ws_K_answerOf) B.pre
  have hown : s.vm.findClass "DecodeTests$Kept" = some m.cls := findClass_of_methodNamed B.named
  have hlocks := B.notSynchronized
  have hT : ∀ w9 ∈ zz_T, w9.before ([.ref aK, .int (nI w)] : List Value).toArray s = true := fun w9 h => hts w9 (List.mem_cons_of_mem _ h)
  have hl := lv_entry ([.ref aK, .int (nI w)]) (n := 2) (Nat.le_of_ble_eq_true rfl)
  rw [lg_entry_eq]
  generalize (lg_sl ([.ref aK, .int (nI w)]) ++ List.replicate (2 - (lg_sl ([.ref aK, .int (nI w)])).length) Slot.unset).toArray = ls at hl ⊢
  have hl : lv_has ls 2 [(0, .ref aK), (1, .int (nI w))] := hl
  have hr16 : w &&& 15 < 16 := zz_and_lt (by omega)
  refine lv_aload_n hx hb d_K_answerOf_0 rfl (lv_at hl 0 rfl) ?_
  refine va_get (D := D) (ci := 2) (v := .ref aKa) (C := "DecodeTests$Kept") (T := F_K) (N := 4) hx hb hT hin_K hown hK hP 0 rfl rfl 2 (by decide) (hT _ q_f_K_18) (fun _ h9 => h9) rfl d_K_answerOf_1 ?_
  refine lv_iload_n hx hb d_K_answerOf_4 rfl (lv_at hl 1 rfl) ?_
  refine zz_rS (As := [.int (nI w)]) (rest := [.ref aKa]) (r := nI (w &&& 15)) ⟨hx, hb, hml, hown, hts⟩ (c_K_rowOf l _ _ w) (va_cwS 1 hts g_K_answerOf_28 rfl rfl rfl k_K_rowOf.2 ⟨show 0 + 1 ≤ 1 by omega, show 8 + (1 + 11) + 0 ≤ 20 by omega⟩) (zz_blind_nx) hK (hP.sub (ws' := []) [] rfl) (fun _ _ _ => trivial) rfl hl.1 rfl (Nat.le_of_ble_eq_true rfl) d_K_answerOf_5 ⟨Nat.zero_le _, Nat.zero_le _⟩ ?_
  refine zz_iald hx hb hK hP 3 0 rfl rfl (j := w &&& 15) (by omega) (by omega) d_K_answerOf_8 ?_
  refine zz_top (y := zz_o (ka (w &&& 15))) rfl ?_
  exact W.iret (v := zz_o (ka (w &&& 15))) hx hb hr (fun t ht _ => zz_rd (rfl) ht) (fun _ h => by cases h) d_K_answerOf_9

set_option maxHeartbeats 4000000 in
set_option maxRecDepth 100000 in
theorem c_K_put (l : Launch) (D : va_G) (cA : ClassId) (aK : Nat) (aKw : Nat) (aKf : Nat) (aKa : Nat) (kn : Nat) (kw : Nat → Nat) (kf : Nat → Nat) (ka : Nat → Nat) (w : Nat) (fl : Nat) (an : Nat) (sz : Nat) (hK0 : zK_ok kw kf ka kn) (hw : w < 256) (hfl : fl < 256) : Met l y_K_put ws_K_put ({ frames := 1, cells := 0, slots := 0, locals := 20 }) (va_Pc [.ref aK, .int (nI w), .int (nI fl), .int (zz_o an)] (zz_preW D vwCl [(cA, .int)] [(aK, .inr (2, [.ref aKw, .ref aKf, .ref aKa, .int (nI kn)])), (aKw, .inl (cA, 16, .inl (fun j => zz_o (kw j)))), (aKf, .inl (cA, 16, .inl (fun j => nI (kf j)))), (aKa, .inl (cA, 16, .inl (fun j => zz_o (ka j))))] sz zz_nx)) (va_Qv (fun _ : Unit => True) (fun _ => zz_post D vwCl [(cA, .int)] (va_A [(aK, .inr (2, [.ref aKw, .ref aKf, .ref aKa, .int (nI kn)])), (aKw, .inl (cA, 16, .inl (fun j => zz_o (kw j)))), (aKf, .inl (cA, 16, .inl (fun j => nI (kf j)))), (aKa, .inl (cA, 16, .inl (fun j => zz_o (ka j))))] sz) [(aK, .inr (2, [.ref aKw, .ref aKf, .ref aKa, .int (nI (if kw (w &&& 15) = 0 then kn + 1 else kn))])), (aKw, .inl (cA, 16, .inl (fun j => zz_o ((zz_up kw (w &&& 15) (w + 1)) j)))), (aKf, .inl (cA, 16, .inl (fun j => nI ((zz_up kf (w &&& 15) fl) j)))), (aKa, .inl (cA, 16, .inl (fun j => zz_o ((zz_up ka (w &&& 15) an) j))))]) (va_A [(aK, .inr (2, [.ref aKw, .ref aKf, .ref aKa, .int (nI kn)])), (aKw, .inl (cA, 16, .inl (fun j => zz_o (kw j)))), (aKf, .inl (cA, 16, .inl (fun j => nI (kf j)))), (aKa, .inl (cA, 16, .inl (fun j => zz_o (ka j))))] sz)) 0 0 (va_A [(aK, .inr (2, [.ref aKw, .ref aKf, .ref aKa, .int (nI kn)])), (aKw, .inl (cA, 16, .inl (fun j => zz_o (kw j)))), (aKf, .inl (cA, 16, .inl (fun j => nI (kf j)))), (aKa, .inl (cA, 16, .inl (fun j => zz_o (ka j))))] sz) := by
  refine Met.ofW (cc := b_K_put) (maxL := 5) (ret := none) (by decide) rfl ?_
  intro p e s m args below meth c s₁ B hml hv
  obtain ⟨rfl, hsz, hP, hK, hD0, hX⟩ := hv
  have hx := B.exec
  have hb := B.bytes
  have hr := B.returns
  have hts := atoms_spec (ws := ws_K_put) B.pre
  have hown : s.vm.findClass "DecodeTests$Kept" = some m.cls := findClass_of_methodNamed B.named
  have hlocks := B.notSynchronized
  have hT : ∀ w9 ∈ zz_T, w9.before ([.ref aK, .int (nI w), .int (nI fl), .int (zz_o an)] : List Value).toArray s = true := fun w9 h => hts w9 (List.mem_cons_of_mem _ h)
  subst hsz
  have hD := hD0.self (sz := s.heap.size)
  generalize hAe : va_A [(aK, .inr (2, [.ref aKw, .ref aKf, .ref aKa, .int (nI kn)])), (aKw, .inl (cA, 16, .inl (fun j => zz_o (kw j)))), (aKf, .inl (cA, 16, .inl (fun j => nI (kf j)))), (aKa, .inl (cA, 16, .inl (fun j => zz_o (ka j))))] s.heap.size = A at hD hX ⊢
  have hA : ∀ q : Nat, s.heap.size ≤ q → A q := fun q h => by rw [← hAe]; exact Or.inr h
  have hS : va_S A s.heap s.heap [] := va_S.rf
  have hl := lv_entry ([.ref aK, .int (nI w), .int (nI fl), .int (zz_o an)]) (n := 5) (Nat.le_of_ble_eq_true rfl)
  rw [lg_entry_eq]
  generalize (lg_sl ([.ref aK, .int (nI w), .int (nI fl), .int (zz_o an)]) ++ List.replicate (5 - (lg_sl ([.ref aK, .int (nI w), .int (nI fl), .int (zz_o an)])).length) Slot.unset).toArray = ls at hl ⊢
  have hl : lv_has ls 5 [(0, .ref aK), (1, .int (nI w)), (2, .int (nI fl)), (3, .int (zz_o an))] := hl
  obtain ⟨hkn, hkw, hkf, hka⟩ := id hK0
  have hr16 : w &&& 15 < 16 := zz_and_lt (by omega)
  have b1 := hkw (w &&& 15)
  refine lv_iload_n hx hb d_K_put_0 rfl (lv_at hl 1 rfl) ?_
  refine zz_rS (As := [.int (nI w)]) (rest := []) (r := nI (w &&& 15)) ⟨hx, hb, hml, hown, hts⟩ (c_K_rowOf l _ _ w) (va_cwS 1 hts g_K_put_28 rfl rfl rfl k_K_rowOf.2 ⟨show 0 + 1 ≤ 1 by omega, show 8 + (1 + 11) + 0 ≤ 20 by omega⟩) (zz_blind_nx) hK (hP.sub (ws' := []) [] rfl) (fun _ _ _ => trivial) rfl hl.1 rfl (Nat.le_of_ble_eq_true rfl) d_K_put_1 ⟨Nat.zero_le _, Nat.zero_le _⟩ ?_
  refine lv_istore (lv' := [(4, .int (nI (w &&& 15))), (0, .ref aK), (1, .int (nI w)), (2, .int (nI fl)), (3, .int (zz_o an))]) hx hb d_K_put_4 hl (by decide) rfl (fun ls hl => ?_)
  refine lv_aload_n hx hb d_K_put_6 rfl (lv_at hl 1 rfl) ?_
  refine va_get (D := D) (ci := 2) (v := .ref aKw) (C := "DecodeTests$Kept") (T := F_K) (N := 4) hx hb hT hin_K hown hK hP 0 rfl rfl 0 (by decide) (hT _ q_f_K_9) (fun _ h9 => h9) rfl d_K_put_7 ?_
  refine lv_iload hx hb d_K_put_10 (lv_at hl 0 rfl) ?_
  refine zz_iald hx hb hK hP 1 0 rfl rfl (j := w &&& 15) (by omega) (by omega) d_K_put_12 ?_
  refine zz_top (y := zz_o (kw (w &&& 15))) rfl ?_
  refine lv_iconst (v := -1) hx hb d_K_put_13 (by decide) ?_
  refine lv_icmp_ne (tgt := 27) hx hb d_K_put_14 (by decide) (fun c14 => ?_) (fun c14 => ?_)
  · rw [zz_o_none (by omega)] at c14
    refine lv_aload_n hx hb d_K_put_27 rfl (lv_at hl 1 rfl) ?_
    refine va_get (D := D) (ci := 2) (v := .ref aKw) (C := "DecodeTests$Kept") (T := F_K) (N := 4) hx hb hT hin_K hown hK hP 0 rfl rfl 0 (by decide) (hT _ q_f_K_9) (fun _ h9 => h9) rfl d_K_put_28 ?_
    refine lv_iload hx hb d_K_put_31 (lv_at hl 0 rfl) ?_
    refine lv_iload_n hx hb d_K_put_33 rfl (lv_at hl 2 rfl) ?_
    refine zz_top (y := zz_o (w + 1)) (rfl) ?_
    refine zz_iastO hx hb hK hP hD hS 1 0 rfl rfl (j := w &&& 15) (by omega) (by omega) d_K_put_34 (fun H locs hP hD hS => ?_)
    have hP : va_P D vwCl [(aK, .inr (2, [.ref aKw, .ref aKf, .ref aKa, .int (nI kn)])), (aKw, .inl (cA, 16, .inl (fun j => zz_o ((zz_up kw (w &&& 15) (w + 1)) j)))), (aKf, .inl (cA, 16, .inl (fun j => nI (kf j)))), (aKa, .inl (cA, 16, .inl (fun j => zz_o (ka j))))] H := hP
    have hD : va_D A [(aK, .inr (2, [.ref aKw, .ref aKf, .ref aKa, .int (nI kn)])), (aKw, .inl (cA, 16, .inl (fun j => zz_o ((zz_up kw (w &&& 15) (w + 1)) j)))), (aKf, .inl (cA, 16, .inl (fun j => nI (kf j)))), (aKa, .inl (cA, 16, .inl (fun j => zz_o (ka j))))] := hD
    refine lv_aload_n hx hb d_K_put_35 rfl (lv_at hl 1 rfl) ?_
    refine va_get (D := D) (ci := 2) (v := .ref aKf) (C := "DecodeTests$Kept") (T := F_K) (N := 4) hx hb hT hin_K hown hK hP 0 rfl rfl 1 (by decide) (hT _ q_f_K_15) (fun _ h9 => h9) rfl d_K_put_36 ?_
    refine lv_iload hx hb d_K_put_39 (lv_at hl 0 rfl) ?_
    refine lv_iload_n hx hb d_K_put_41 rfl (lv_at hl 3 rfl) ?_
    refine zz_iastN hx hb hK hP hD hS 2 0 rfl rfl (j := w &&& 15) (by omega) (by omega) d_K_put_42 (fun H locs hP hD hS => ?_)
    have hP : va_P D vwCl [(aK, .inr (2, [.ref aKw, .ref aKf, .ref aKa, .int (nI kn)])), (aKw, .inl (cA, 16, .inl (fun j => zz_o ((zz_up kw (w &&& 15) (w + 1)) j)))), (aKf, .inl (cA, 16, .inl (fun j => nI ((zz_up kf (w &&& 15) fl) j)))), (aKa, .inl (cA, 16, .inl (fun j => zz_o (ka j))))] H := hP
    have hD : va_D A [(aK, .inr (2, [.ref aKw, .ref aKf, .ref aKa, .int (nI kn)])), (aKw, .inl (cA, 16, .inl (fun j => zz_o ((zz_up kw (w &&& 15) (w + 1)) j)))), (aKf, .inl (cA, 16, .inl (fun j => nI ((zz_up kf (w &&& 15) fl) j)))), (aKa, .inl (cA, 16, .inl (fun j => zz_o (ka j))))] := hD
    refine lv_aload_n hx hb d_K_put_43 rfl (lv_at hl 1 rfl) ?_
    refine va_get (D := D) (ci := 2) (v := .ref aKa) (C := "DecodeTests$Kept") (T := F_K) (N := 4) hx hb hT hin_K hown hK hP 0 rfl rfl 2 (by decide) (hT _ q_f_K_18) (fun _ h9 => h9) rfl d_K_put_44 ?_
    refine lv_iload hx hb d_K_put_47 (lv_at hl 0 rfl) ?_
    refine lv_iload_n hx hb d_K_put_49 rfl (lv_at hl 4 rfl) ?_
    refine zz_iastO hx hb hK hP hD hS 3 0 rfl rfl (j := w &&& 15) (by omega) (by omega) d_K_put_50 (fun H locs hP hD hS => ?_)
    have hP : va_P D vwCl [(aK, .inr (2, [.ref aKw, .ref aKf, .ref aKa, .int (nI kn)])), (aKw, .inl (cA, 16, .inl (fun j => zz_o ((zz_up kw (w &&& 15) (w + 1)) j)))), (aKf, .inl (cA, 16, .inl (fun j => nI ((zz_up kf (w &&& 15) fl) j)))), (aKa, .inl (cA, 16, .inl (fun j => zz_o ((zz_up ka (w &&& 15) an) j))))] H := hP
    have hD : va_D A [(aK, .inr (2, [.ref aKw, .ref aKf, .ref aKa, .int (nI kn)])), (aKw, .inl (cA, 16, .inl (fun j => zz_o ((zz_up kw (w &&& 15) (w + 1)) j)))), (aKf, .inl (cA, 16, .inl (fun j => nI ((zz_up kf (w &&& 15) fl) j)))), (aKa, .inl (cA, 16, .inl (fun j => zz_o ((zz_up ka (w &&& 15) an) j))))] := hD
    have hP : va_P D vwCl [(aK, .inr (2, [.ref aKw, .ref aKf, .ref aKa, .int (nI (if kw (w &&& 15) = 0 then kn + 1 else kn))])), (aKw, .inl (cA, 16, .inl (fun j => zz_o ((zz_up kw (w &&& 15) (w + 1)) j)))), (aKf, .inl (cA, 16, .inl (fun j => nI ((zz_up kf (w &&& 15) fl) j)))), (aKa, .inl (cA, 16, .inl (fun j => zz_o ((zz_up ka (w &&& 15) an) j))))] H := by first | (rw [if_pos c14]; exact hP) | (rw [if_neg c14]; exact hP)
    have hD : va_D A [(aK, .inr (2, [.ref aKw, .ref aKf, .ref aKa, .int (nI (if kw (w &&& 15) = 0 then kn + 1 else kn))])), (aKw, .inl (cA, 16, .inl (fun j => zz_o ((zz_up kw (w &&& 15) (w + 1)) j)))), (aKf, .inl (cA, 16, .inl (fun j => nI ((zz_up kf (w &&& 15) fl) j)))), (aKa, .inl (cA, 16, .inl (fun j => zz_o ((zz_up ka (w &&& 15) an) j))))] := by first | (rw [if_pos c14]; exact hD) | (rw [if_neg c14]; exact hD)
    exact W.vret hx hb hr (fun t ht hW => ⟨⟨(), rfl, trivial, by rw [ht]; exact hP, va_K.moved hW.alike hK, hD⟩, hS.F ht⟩) hS.2.2 d_K_put_51
  · rw [zz_o_none (by omega)] at c14
    refine lv_aload_n hx hb d_K_put_17 rfl (lv_at hl 1 rfl) ?_
    refine lv_dup hx hb d_K_put_18 rfl ?_
    refine va_get (D := D) (ci := 2) (v := .int (nI kn)) (C := "DecodeTests$Kept") (T := F_K) (N := 4) hx hb hT hin_K hown hK hP 0 rfl rfl 3 (by decide) (hT _ q_f_K_24) (fun _ h9 => h9) rfl d_K_put_19 ?_
    refine lv_iconst (v := nI 1) hx hb d_K_put_22 (by decide) ?_
    refine lv_iadd hx hb d_K_put_23 ?_
    refine zz_top (y := nI (kn + 1)) (nI_add kn 1) ?_
    refine va_put (D := D) (ci := 2) (v := .int (nI (kn + 1))) (ty := .int) (C := "DecodeTests$Kept") (T := F_K) (N := 4) hx hb hT hin_K ft_K ft_K_ok n_K hown hK hP hD hS 0 rfl rfl 3 (by decide) (hT _ q_f_K_24) (fun _ h9 => h9) rfl (by decide +kernel) rfl rfl (Nat.le_of_ble_eq_true rfl) d_K_put_24 (fun H locs hP hD hS => ?_)
    have hP : va_P D vwCl [(aK, .inr (2, [.ref aKw, .ref aKf, .ref aKa, .int (nI (kn + 1))])), (aKw, .inl (cA, 16, .inl (fun j => zz_o (kw j)))), (aKf, .inl (cA, 16, .inl (fun j => nI (kf j)))), (aKa, .inl (cA, 16, .inl (fun j => zz_o (ka j))))] H := hP
    have hD : va_D A [(aK, .inr (2, [.ref aKw, .ref aKf, .ref aKa, .int (nI (kn + 1))])), (aKw, .inl (cA, 16, .inl (fun j => zz_o (kw j)))), (aKf, .inl (cA, 16, .inl (fun j => nI (kf j)))), (aKa, .inl (cA, 16, .inl (fun j => zz_o (ka j))))] := hD
    refine lv_aload_n hx hb d_K_put_27 rfl (lv_at hl 1 rfl) ?_
    refine va_get (D := D) (ci := 2) (v := .ref aKw) (C := "DecodeTests$Kept") (T := F_K) (N := 4) hx hb hT hin_K hown hK hP 0 rfl rfl 0 (by decide) (hT _ q_f_K_9) (fun _ h9 => h9) rfl d_K_put_28 ?_
    refine lv_iload hx hb d_K_put_31 (lv_at hl 0 rfl) ?_
    refine lv_iload_n hx hb d_K_put_33 rfl (lv_at hl 2 rfl) ?_
    refine zz_top (y := zz_o (w + 1)) (rfl) ?_
    refine zz_iastO hx hb hK hP hD hS 1 0 rfl rfl (j := w &&& 15) (by omega) (by omega) d_K_put_34 (fun H locs hP hD hS => ?_)
    have hP : va_P D vwCl [(aK, .inr (2, [.ref aKw, .ref aKf, .ref aKa, .int (nI (kn + 1))])), (aKw, .inl (cA, 16, .inl (fun j => zz_o ((zz_up kw (w &&& 15) (w + 1)) j)))), (aKf, .inl (cA, 16, .inl (fun j => nI (kf j)))), (aKa, .inl (cA, 16, .inl (fun j => zz_o (ka j))))] H := hP
    have hD : va_D A [(aK, .inr (2, [.ref aKw, .ref aKf, .ref aKa, .int (nI (kn + 1))])), (aKw, .inl (cA, 16, .inl (fun j => zz_o ((zz_up kw (w &&& 15) (w + 1)) j)))), (aKf, .inl (cA, 16, .inl (fun j => nI (kf j)))), (aKa, .inl (cA, 16, .inl (fun j => zz_o (ka j))))] := hD
    refine lv_aload_n hx hb d_K_put_35 rfl (lv_at hl 1 rfl) ?_
    refine va_get (D := D) (ci := 2) (v := .ref aKf) (C := "DecodeTests$Kept") (T := F_K) (N := 4) hx hb hT hin_K hown hK hP 0 rfl rfl 1 (by decide) (hT _ q_f_K_15) (fun _ h9 => h9) rfl d_K_put_36 ?_
    refine lv_iload hx hb d_K_put_39 (lv_at hl 0 rfl) ?_
    refine lv_iload_n hx hb d_K_put_41 rfl (lv_at hl 3 rfl) ?_
    refine zz_iastN hx hb hK hP hD hS 2 0 rfl rfl (j := w &&& 15) (by omega) (by omega) d_K_put_42 (fun H locs hP hD hS => ?_)
    have hP : va_P D vwCl [(aK, .inr (2, [.ref aKw, .ref aKf, .ref aKa, .int (nI (kn + 1))])), (aKw, .inl (cA, 16, .inl (fun j => zz_o ((zz_up kw (w &&& 15) (w + 1)) j)))), (aKf, .inl (cA, 16, .inl (fun j => nI ((zz_up kf (w &&& 15) fl) j)))), (aKa, .inl (cA, 16, .inl (fun j => zz_o (ka j))))] H := hP
    have hD : va_D A [(aK, .inr (2, [.ref aKw, .ref aKf, .ref aKa, .int (nI (kn + 1))])), (aKw, .inl (cA, 16, .inl (fun j => zz_o ((zz_up kw (w &&& 15) (w + 1)) j)))), (aKf, .inl (cA, 16, .inl (fun j => nI ((zz_up kf (w &&& 15) fl) j)))), (aKa, .inl (cA, 16, .inl (fun j => zz_o (ka j))))] := hD
    refine lv_aload_n hx hb d_K_put_43 rfl (lv_at hl 1 rfl) ?_
    refine va_get (D := D) (ci := 2) (v := .ref aKa) (C := "DecodeTests$Kept") (T := F_K) (N := 4) hx hb hT hin_K hown hK hP 0 rfl rfl 2 (by decide) (hT _ q_f_K_18) (fun _ h9 => h9) rfl d_K_put_44 ?_
    refine lv_iload hx hb d_K_put_47 (lv_at hl 0 rfl) ?_
    refine lv_iload_n hx hb d_K_put_49 rfl (lv_at hl 4 rfl) ?_
    refine zz_iastO hx hb hK hP hD hS 3 0 rfl rfl (j := w &&& 15) (by omega) (by omega) d_K_put_50 (fun H locs hP hD hS => ?_)
    have hP : va_P D vwCl [(aK, .inr (2, [.ref aKw, .ref aKf, .ref aKa, .int (nI (kn + 1))])), (aKw, .inl (cA, 16, .inl (fun j => zz_o ((zz_up kw (w &&& 15) (w + 1)) j)))), (aKf, .inl (cA, 16, .inl (fun j => nI ((zz_up kf (w &&& 15) fl) j)))), (aKa, .inl (cA, 16, .inl (fun j => zz_o ((zz_up ka (w &&& 15) an) j))))] H := hP
    have hD : va_D A [(aK, .inr (2, [.ref aKw, .ref aKf, .ref aKa, .int (nI (kn + 1))])), (aKw, .inl (cA, 16, .inl (fun j => zz_o ((zz_up kw (w &&& 15) (w + 1)) j)))), (aKf, .inl (cA, 16, .inl (fun j => nI ((zz_up kf (w &&& 15) fl) j)))), (aKa, .inl (cA, 16, .inl (fun j => zz_o ((zz_up ka (w &&& 15) an) j))))] := hD
    have hP : va_P D vwCl [(aK, .inr (2, [.ref aKw, .ref aKf, .ref aKa, .int (nI (if kw (w &&& 15) = 0 then kn + 1 else kn))])), (aKw, .inl (cA, 16, .inl (fun j => zz_o ((zz_up kw (w &&& 15) (w + 1)) j)))), (aKf, .inl (cA, 16, .inl (fun j => nI ((zz_up kf (w &&& 15) fl) j)))), (aKa, .inl (cA, 16, .inl (fun j => zz_o ((zz_up ka (w &&& 15) an) j))))] H := by first | (rw [if_pos c14]; exact hP) | (rw [if_neg c14]; exact hP)
    have hD : va_D A [(aK, .inr (2, [.ref aKw, .ref aKf, .ref aKa, .int (nI (if kw (w &&& 15) = 0 then kn + 1 else kn))])), (aKw, .inl (cA, 16, .inl (fun j => zz_o ((zz_up kw (w &&& 15) (w + 1)) j)))), (aKf, .inl (cA, 16, .inl (fun j => nI ((zz_up kf (w &&& 15) fl) j)))), (aKa, .inl (cA, 16, .inl (fun j => zz_o ((zz_up ka (w &&& 15) an) j))))] := by first | (rw [if_pos c14]; exact hD) | (rw [if_neg c14]; exact hD)
    exact W.vret hx hb hr (fun t ht hW => ⟨⟨(), rfl, trivial, by rw [ht]; exact hP, va_K.moved hW.alike hK, hD⟩, hS.F ht⟩) hS.2.2 d_K_put_51

set_option maxHeartbeats 4000000 in
set_option maxRecDepth 100000 in
theorem c_K_clear (l : Launch) (D : va_G) (cA : ClassId) (aK : Nat) (aKw : Nat) (aKf : Nat) (aKa : Nat) (kn : Nat) (kw : Nat → Nat) (kf : Nat → Nat) (ka : Nat → Nat) (sz : Nat) : Met l y_K_clear ws_K_clear ({ frames := 0, cells := 0, slots := 0, locals := 0 }) (va_Pc [.ref aK] (zz_preW D vwCl [(cA, .int)] [(aK, .inr (2, [.ref aKw, .ref aKf, .ref aKa, .int (nI kn)])), (aKw, .inl (cA, 16, .inl (fun j => zz_o (kw j)))), (aKf, .inl (cA, 16, .inl (fun j => nI (kf j)))), (aKa, .inl (cA, 16, .inl (fun j => zz_o (ka j))))] sz zz_nx)) (va_Qv (fun _ : Unit => True) (fun _ => zz_post D vwCl [(cA, .int)] (va_A [(aK, .inr (2, [.ref aKw, .ref aKf, .ref aKa, .int (nI kn)])), (aKw, .inl (cA, 16, .inl (fun j => zz_o (kw j)))), (aKf, .inl (cA, 16, .inl (fun j => nI (kf j)))), (aKa, .inl (cA, 16, .inl (fun j => zz_o (ka j))))] sz) [(aK, .inr (2, [.ref aKw, .ref aKf, .ref aKa, .int (nI 0)])), (aKw, .inl (cA, 16, .inl (fun j => zz_o ((zz_clr kw 16) j)))), (aKf, .inl (cA, 16, .inl (fun j => nI (kf j)))), (aKa, .inl (cA, 16, .inl (fun j => zz_o (ka j))))]) (va_A [(aK, .inr (2, [.ref aKw, .ref aKf, .ref aKa, .int (nI kn)])), (aKw, .inl (cA, 16, .inl (fun j => zz_o (kw j)))), (aKf, .inl (cA, 16, .inl (fun j => nI (kf j)))), (aKa, .inl (cA, 16, .inl (fun j => zz_o (ka j))))] sz)) 0 0 (va_A [(aK, .inr (2, [.ref aKw, .ref aKf, .ref aKa, .int (nI kn)])), (aKw, .inl (cA, 16, .inl (fun j => zz_o (kw j)))), (aKf, .inl (cA, 16, .inl (fun j => nI (kf j)))), (aKa, .inl (cA, 16, .inl (fun j => zz_o (ka j))))] sz) := by
  refine Met.ofW (cc := b_K_clear) (maxL := 2) (ret := none) (by decide) rfl ?_
  intro p e s m args below meth c s₁ B hml hv
  obtain ⟨rfl, hsz, hP, hK, hD0, hX⟩ := hv
  have hx := B.exec
  have hb := B.bytes
  have hr := B.returns
  have hts := atoms_spec (ws := ws_K_clear) B.pre
  have hown : s.vm.findClass "DecodeTests$Kept" = some m.cls := findClass_of_methodNamed B.named
  have hlocks := B.notSynchronized
  have hT : ∀ w9 ∈ zz_T, w9.before ([.ref aK] : List Value).toArray s = true := fun w9 h => hts w9 (List.mem_cons_of_mem _ h)
  subst hsz
  have hD := hD0.self (sz := s.heap.size)
  generalize hAe : va_A [(aK, .inr (2, [.ref aKw, .ref aKf, .ref aKa, .int (nI kn)])), (aKw, .inl (cA, 16, .inl (fun j => zz_o (kw j)))), (aKf, .inl (cA, 16, .inl (fun j => nI (kf j)))), (aKa, .inl (cA, 16, .inl (fun j => zz_o (ka j))))] s.heap.size = A at hD hX ⊢
  have hA : ∀ q : Nat, s.heap.size ≤ q → A q := fun q h => by rw [← hAe]; exact Or.inr h
  have hS : va_S A s.heap s.heap [] := va_S.rf
  have hl := lv_entry ([.ref aK]) (n := 2) (Nat.le_of_ble_eq_true rfl)
  rw [lg_entry_eq]
  generalize (lg_sl ([.ref aK]) ++ List.replicate (2 - (lg_sl ([.ref aK])).length) Slot.unset).toArray = ls at hl ⊢
  have hl : lv_has ls 2 [(0, .ref aK)] := hl
  refine lv_iconst (v := nI 0) hx hb d_K_clear_0 (by decide) ?_
  refine lv_istore_n (lv' := [(1, .int (nI 0)), (0, .ref aK)]) hx hb d_K_clear_1 rfl hl (by decide) rfl (fun ls hl => ?_)
  rw [← zz_clr_0 kw] at hP hD
  have lp : ∀ (fu : Nat) (i : Nat), (i ≤ 16) → 16 - i < fu → ∀ (H : Heap) (locs : List Loc), va_P D vwCl [(aK, .inr (2, [.ref aKw, .ref aKf, .ref aKa, .int (nI kn)])), (aKw, .inl (cA, 16, .inl (fun j => zz_o ((zz_clr kw i) j)))), (aKf, .inl (cA, 16, .inl (fun j => nI (kf j)))), (aKa, .inl (cA, 16, .inl (fun j => zz_o (ka j))))] H → va_D A [(aK, .inr (2, [.ref aKw, .ref aKf, .ref aKa, .int (nI kn)])), (aKw, .inl (cA, 16, .inl (fun j => zz_o ((zz_clr kw i) j)))), (aKf, .inl (cA, 16, .inl (fun j => nI (kf j)))), (aKa, .inl (cA, 16, .inl (fun j => zz_o (ka j))))] → va_S A s.heap H locs → ∀ (ls : Array Slot), lv_has ls 2 [(0, .ref aK), (1, .int (nI i))] → W p l e (headSpec ws_K_clear ({ frames := 0, cells := 0, slots := 0, locals := 0 })).room s m ([.ref aK] : List Value).toArray below meth c H locs 0 0 (MQ below (va_Qv (fun _ : Unit => True) (fun _ => zz_post D vwCl [(cA, .int)] A [(aK, .inr (2, [.ref aKw, .ref aKf, .ref aKa, .int (nI 0)])), (aKw, .inl (cA, 16, .inl (fun j => zz_o ((zz_clr kw 16) j)))), (aKf, .inl (cA, 16, .inl (fun j => nI (kf j)))), (aKa, .inl (cA, 16, .inl (fun j => zz_o (ka j))))]) A) ([.ref aK] : List Value).toArray s 0 0 A) (F0 m 2 ls []) := by
    intro fu
    induction fu with
    | zero => intro i hi hmu; exact absurd hmu (Nat.not_lt_zero _)
    | succ fu ih_lp =>
      intro i hi hmu H locs hP hD hS ls hl
      refine lv_iload_n hx hb d_K_clear_2 rfl (lv_at hl 1 rfl) ?_
      refine lv_bipush (v := nI 16) hx hb d_K_clear_3 (by decide) ?_
      refine lv_icmp_ge (tgt := 21) hx hb d_K_clear_5 (by decide) (fun c5 => ?_) (fun c5 => ?_)
      · rw [zz_le (by omega) (by omega)] at c5
        have hi16 : i = 16 := by omega
        rw [hi16] at hP hD
        refine lv_aload_n hx hb d_K_clear_21 rfl (lv_at hl 0 rfl) ?_
        refine lv_iconst (v := nI 0) hx hb d_K_clear_22 (by decide) ?_
        refine va_put (D := D) (ci := 2) (v := .int (nI 0)) (ty := .int) (C := "DecodeTests$Kept") (T := F_K) (N := 4) hx hb hT hin_K ft_K ft_K_ok n_K hown hK hP hD hS 0 rfl rfl 3 (by decide) (hT _ q_f_K_24) (fun _ h9 => h9) rfl (by decide +kernel) rfl rfl (Nat.le_of_ble_eq_true rfl) d_K_clear_23 (fun H locs hP hD hS => ?_)
        have hP : va_P D vwCl [(aK, .inr (2, [.ref aKw, .ref aKf, .ref aKa, .int (nI 0)])), (aKw, .inl (cA, 16, .inl (fun j => zz_o ((zz_clr kw 16) j)))), (aKf, .inl (cA, 16, .inl (fun j => nI (kf j)))), (aKa, .inl (cA, 16, .inl (fun j => zz_o (ka j))))] H := hP
        have hD : va_D A [(aK, .inr (2, [.ref aKw, .ref aKf, .ref aKa, .int (nI 0)])), (aKw, .inl (cA, 16, .inl (fun j => zz_o ((zz_clr kw 16) j)))), (aKf, .inl (cA, 16, .inl (fun j => nI (kf j)))), (aKa, .inl (cA, 16, .inl (fun j => zz_o (ka j))))] := hD
        have hP : va_P D vwCl [(aK, .inr (2, [.ref aKw, .ref aKf, .ref aKa, .int (nI 0)])), (aKw, .inl (cA, 16, .inl (fun j => zz_o ((zz_clr kw 16) j)))), (aKf, .inl (cA, 16, .inl (fun j => nI (kf j)))), (aKa, .inl (cA, 16, .inl (fun j => zz_o (ka j))))] H := hP
        have hD : va_D A [(aK, .inr (2, [.ref aKw, .ref aKf, .ref aKa, .int (nI 0)])), (aKw, .inl (cA, 16, .inl (fun j => zz_o ((zz_clr kw 16) j)))), (aKf, .inl (cA, 16, .inl (fun j => nI (kf j)))), (aKa, .inl (cA, 16, .inl (fun j => zz_o (ka j))))] := hD
        exact W.vret hx hb hr (fun t ht hW => ⟨⟨(), rfl, trivial, by rw [ht]; exact hP, va_K.moved hW.alike hK, hD⟩, hS.F ht⟩) hS.2.2 d_K_clear_26
      · rw [zz_le (by omega) (by omega)] at c5
        refine lv_aload_n hx hb d_K_clear_8 rfl (lv_at hl 0 rfl) ?_
        refine va_get (D := D) (ci := 2) (v := .ref aKw) (C := "DecodeTests$Kept") (T := F_K) (N := 4) hx hb hT hin_K hown hK hP 0 rfl rfl 0 (by decide) (hT _ q_f_K_9) (fun _ h9 => h9) rfl d_K_clear_9 ?_
        refine lv_iload_n hx hb d_K_clear_12 rfl (lv_at hl 1 rfl) ?_
        refine lv_iconst (v := -1) hx hb d_K_clear_13 (by decide) ?_
        refine zz_top (y := zz_o 0) (rfl) ?_
        refine zz_iastO hx hb hK hP hD hS 1 0 rfl rfl (j := i) (by omega) (by omega) d_K_clear_14 (fun H locs hP hD hS => ?_)
        have hP : va_P D vwCl [(aK, .inr (2, [.ref aKw, .ref aKf, .ref aKa, .int (nI kn)])), (aKw, .inl (cA, 16, .inl (fun j => zz_o ((zz_up (zz_clr kw i) i 0) j)))), (aKf, .inl (cA, 16, .inl (fun j => nI (kf j)))), (aKa, .inl (cA, 16, .inl (fun j => zz_o (ka j))))] H := hP
        have hD : va_D A [(aK, .inr (2, [.ref aKw, .ref aKf, .ref aKa, .int (nI kn)])), (aKw, .inl (cA, 16, .inl (fun j => zz_o ((zz_up (zz_clr kw i) i 0) j)))), (aKf, .inl (cA, 16, .inl (fun j => nI (kf j)))), (aKa, .inl (cA, 16, .inl (fun j => zz_o (ka j))))] := hD
        rw [zz_clr_up] at hP hD
        have hP : va_P D vwCl [(aK, .inr (2, [.ref aKw, .ref aKf, .ref aKa, .int (nI kn)])), (aKw, .inl (cA, 16, .inl (fun j => zz_o ((zz_clr kw (i + 1)) j)))), (aKf, .inl (cA, 16, .inl (fun j => nI (kf j)))), (aKa, .inl (cA, 16, .inl (fun j => zz_o (ka j))))] H := hP
        have hD : va_D A [(aK, .inr (2, [.ref aKw, .ref aKf, .ref aKa, .int (nI kn)])), (aKw, .inl (cA, 16, .inl (fun j => zz_o ((zz_clr kw (i + 1)) j)))), (aKf, .inl (cA, 16, .inl (fun j => nI (kf j)))), (aKa, .inl (cA, 16, .inl (fun j => zz_o (ka j))))] := hD
        refine lv_iinc (v := nI (i + 1)) (lv' := [(1, .int (nI (i + 1))), (0, .ref aK)]) hx hb d_K_clear_15 hl (k := 1) rfl (nI_add i 1) (by decide) rfl (fun ls hl => ?_)
        refine lv_goto (tgt := 2) hx hb d_K_clear_18 (by decide) ?_
        exact ih_lp (i + 1) (by omega) (by omega) H locs hP hD hS ls (lv_sub hl [1, 0] rfl)
  exact lp (16 + 1) 0 (by omega) (Nat.lt_succ_self _) s.heap [] hP hD hS ls (lv_sub hl [1, 0] rfl)

set_option maxHeartbeats 4000000 in
set_option maxRecDepth 100000 in
theorem c_W_size (l : Launch) (D : va_G) (cA : ClassId) (aW : Nat) (aWr : Nat) (ws : Nat) (wn : Nat) (rg : Nat → Nat) : Met l y_W_size ws_W_size ({ frames := 0, cells := 0, slots := 0, locals := 0 }) (va_Pc [.ref aW] (zz_pre D vwCl [(cA, .int)] [(aW, .inr (5, [.ref aWr, .int (nI ws), .int (nI wn)])), (aWr, .inl (cA, 64, .inl (fun j => nI (rg j))))] zz_nx)) (QcRead (nI wn)) 0 0 (fun _ => False) := by
  refine Met.ofW (cc := b_W_size) (maxL := 1) (ret := (some .int)) (by decide) rfl ?_
  intro p e s m args below meth c s₁ B hml hv
  obtain ⟨rfl, hP, hK, hX⟩ := hv
  have hS : va_S (fun _ => False) s.heap s.heap [] := va_S.rf
  have hx := B.exec
  have hb := B.bytes
  have hr := B.returns
  have hts := atoms_spec (ws := ws_W_size) B.pre
  have hown : s.vm.findClass "DecodeTests$Waiting" = some m.cls := findClass_of_methodNamed B.named
  have hlocks := B.notSynchronized
  have hT : ∀ w9 ∈ zz_T, w9.before ([.ref aW] : List Value).toArray s = true := fun w9 h => hts w9 (List.mem_cons_of_mem _ h)
  have hl := lv_entry ([.ref aW]) (n := 1) (Nat.le_of_ble_eq_true rfl)
  rw [lg_entry_eq]
  generalize (lg_sl ([.ref aW]) ++ List.replicate (1 - (lg_sl ([.ref aW])).length) Slot.unset).toArray = ls at hl ⊢
  have hl : lv_has ls 1 [(0, .ref aW)] := hl
  refine lv_aload_n hx hb d_W_size_0 rfl (lv_at hl 0 rfl) ?_
  refine va_get (D := D) (ci := 5) (v := .int (nI wn)) (C := "DecodeTests$Waiting") (T := F_W) (N := 3) hx hb hT hin_W hown hK hP 0 rfl rfl 2 (by decide) (hT _ q_f_W_15) (fun _ h9 => h9) rfl d_W_size_1 ?_
  exact W.iret (v := nI wn) hx hb hr (fun t ht _ => zz_rd (rfl) ht) (fun _ h => by cases h) d_W_size_4

set_option maxHeartbeats 4000000 in
set_option maxRecDepth 100000 in
theorem c_W_first (l : Launch) (D : va_G) (cA : ClassId) (aW : Nat) (aWr : Nat) (ws : Nat) (wn : Nat) (rg : Nat → Nat) (hs : ws < 64) : Met l y_W_first ws_W_first ({ frames := 0, cells := 0, slots := 0, locals := 0 }) (va_Pc [.ref aW] (zz_pre D vwCl [(cA, .int)] [(aW, .inr (5, [.ref aWr, .int (nI ws), .int (nI wn)])), (aWr, .inl (cA, 64, .inl (fun j => nI (rg j))))] zz_nx)) (QcRead (nI (rg ws))) 0 0 (fun _ => False) := by
  refine Met.ofW (cc := b_W_first) (maxL := 1) (ret := (some .int)) (by decide) rfl ?_
  intro p e s m args below meth c s₁ B hml hv
  obtain ⟨rfl, hP, hK, hX⟩ := hv
  have hS : va_S (fun _ => False) s.heap s.heap [] := va_S.rf
  have hx := B.exec
  have hb := B.bytes
  have hr := B.returns
  have hts := atoms_spec (ws := ws_W_first) B.pre
  have hown : s.vm.findClass "DecodeTests$Waiting" = some m.cls := findClass_of_methodNamed B.named
  have hlocks := B.notSynchronized
  have hT : ∀ w9 ∈ zz_T, w9.before ([.ref aW] : List Value).toArray s = true := fun w9 h => hts w9 (List.mem_cons_of_mem _ h)
  have hl := lv_entry ([.ref aW]) (n := 1) (Nat.le_of_ble_eq_true rfl)
  rw [lg_entry_eq]
  generalize (lg_sl ([.ref aW]) ++ List.replicate (1 - (lg_sl ([.ref aW])).length) Slot.unset).toArray = ls at hl ⊢
  have hl : lv_has ls 1 [(0, .ref aW)] := hl
  refine lv_aload_n hx hb d_W_first_0 rfl (lv_at hl 0 rfl) ?_
  refine va_get (D := D) (ci := 5) (v := .ref aWr) (C := "DecodeTests$Waiting") (T := F_W) (N := 3) hx hb hT hin_W hown hK hP 0 rfl rfl 0 (by decide) (hT _ q_f_W_9) (fun _ h9 => h9) rfl d_W_first_1 ?_
  refine lv_aload_n hx hb d_W_first_4 rfl (lv_at hl 0 rfl) ?_
  refine va_get (D := D) (ci := 5) (v := .int (nI ws)) (C := "DecodeTests$Waiting") (T := F_W) (N := 3) hx hb hT hin_W hown hK hP 0 rfl rfl 1 (by decide) (hT _ q_f_W_19) (fun _ h9 => h9) rfl d_W_first_5 ?_
  refine zz_iald hx hb hK hP 1 0 rfl rfl (j := ws) (by omega) (by omega) d_W_first_8 ?_
  refine zz_top (y := nI (rg ws)) rfl ?_
  exact W.iret (v := nI (rg ws)) hx hb hr (fun t ht _ => zz_rd (rfl) ht) (fun _ h => by cases h) d_W_first_9

set_option maxHeartbeats 4000000 in
set_option maxRecDepth 100000 in
theorem c_W_append (l : Launch) (D : va_G) (cA : ClassId) (aW : Nat) (aWr : Nat) (ws : Nat) (wn : Nat) (rg : Nat → Nat) (w : Nat) (sz : Nat) (hs : ws < 64) (hn : wn < 64) : Met l y_W_append ws_W_append ({ frames := 0, cells := 0, slots := 0, locals := 0 }) (va_Pc [.ref aW, .int (nI w)] (zz_preW D vwCl [(cA, .int)] [(aW, .inr (5, [.ref aWr, .int (nI ws), .int (nI wn)])), (aWr, .inl (cA, 64, .inl (fun j => nI (rg j))))] sz zz_nx)) (va_Qv (fun _ : Unit => True) (fun _ => zz_post D vwCl [(cA, .int)] (va_A [(aW, .inr (5, [.ref aWr, .int (nI ws), .int (nI wn)])), (aWr, .inl (cA, 64, .inl (fun j => nI (rg j))))] sz) [(aW, .inr (5, [.ref aWr, .int (nI ws), .int (nI (wn + 1))])), (aWr, .inl (cA, 64, .inl (fun j => nI ((zz_up rg ((ws + wn) % 64) w) j))))]) (va_A [(aW, .inr (5, [.ref aWr, .int (nI ws), .int (nI wn)])), (aWr, .inl (cA, 64, .inl (fun j => nI (rg j))))] sz)) 0 0 (va_A [(aW, .inr (5, [.ref aWr, .int (nI ws), .int (nI wn)])), (aWr, .inl (cA, 64, .inl (fun j => nI (rg j))))] sz) := by
  refine Met.ofW (cc := b_W_append) (maxL := 2) (ret := none) (by decide) rfl ?_
  intro p e s m args below meth c s₁ B hml hv
  obtain ⟨rfl, hsz, hP, hK, hD0, hX⟩ := hv
  have hx := B.exec
  have hb := B.bytes
  have hr := B.returns
  have hts := atoms_spec (ws := ws_W_append) B.pre
  have hown : s.vm.findClass "DecodeTests$Waiting" = some m.cls := findClass_of_methodNamed B.named
  have hlocks := B.notSynchronized
  have hT : ∀ w9 ∈ zz_T, w9.before ([.ref aW, .int (nI w)] : List Value).toArray s = true := fun w9 h => hts w9 (List.mem_cons_of_mem _ h)
  subst hsz
  have hD := hD0.self (sz := s.heap.size)
  generalize hAe : va_A [(aW, .inr (5, [.ref aWr, .int (nI ws), .int (nI wn)])), (aWr, .inl (cA, 64, .inl (fun j => nI (rg j))))] s.heap.size = A at hD hX ⊢
  have hA : ∀ q : Nat, s.heap.size ≤ q → A q := fun q h => by rw [← hAe]; exact Or.inr h
  have hS : va_S A s.heap s.heap [] := va_S.rf
  have hl := lv_entry ([.ref aW, .int (nI w)]) (n := 2) (Nat.le_of_ble_eq_true rfl)
  rw [lg_entry_eq]
  generalize (lg_sl ([.ref aW, .int (nI w)]) ++ List.replicate (2 - (lg_sl ([.ref aW, .int (nI w)])).length) Slot.unset).toArray = ls at hl ⊢
  have hl : lv_has ls 2 [(0, .ref aW), (1, .int (nI w))] := hl
  refine lv_aload_n hx hb d_W_append_0 rfl (lv_at hl 0 rfl) ?_
  refine va_get (D := D) (ci := 5) (v := .ref aWr) (C := "DecodeTests$Waiting") (T := F_W) (N := 3) hx hb hT hin_W hown hK hP 0 rfl rfl 0 (by decide) (hT _ q_f_W_9) (fun _ h9 => h9) rfl d_W_append_1 ?_
  refine lv_aload_n hx hb d_W_append_4 rfl (lv_at hl 0 rfl) ?_
  refine va_get (D := D) (ci := 5) (v := .int (nI ws)) (C := "DecodeTests$Waiting") (T := F_W) (N := 3) hx hb hT hin_W hown hK hP 0 rfl rfl 1 (by decide) (hT _ q_f_W_19) (fun _ h9 => h9) rfl d_W_append_5 ?_
  refine lv_aload_n hx hb d_W_append_8 rfl (lv_at hl 0 rfl) ?_
  refine va_get (D := D) (ci := 5) (v := .int (nI wn)) (C := "DecodeTests$Waiting") (T := F_W) (N := 3) hx hb hT hin_W hown hK hP 0 rfl rfl 2 (by decide) (hT _ q_f_W_15) (fun _ h9 => h9) rfl d_W_append_9 ?_
  refine lv_iadd hx hb d_W_append_12 ?_
  refine zz_top (y := nI (ws + wn)) (nI_add ws wn) ?_
  refine lv_bipush (v := nI 64) hx hb d_W_append_13 (by decide) ?_
  refine lv_irem hx hb d_W_append_15 (by decide) ?_
  refine zz_top (y := nI ((ws + wn) % 64)) (pk_rem (by omega) (by omega) (by omega)) ?_
  refine lv_iload_n hx hb d_W_append_16 rfl (lv_at hl 1 rfl) ?_
  refine zz_iastN hx hb hK hP hD hS 1 0 rfl rfl (j := (ws + wn) % 64) (Nat.mod_lt _ (by decide)) (by omega) d_W_append_17 (fun H locs hP hD hS => ?_)
  have hP : va_P D vwCl [(aW, .inr (5, [.ref aWr, .int (nI ws), .int (nI wn)])), (aWr, .inl (cA, 64, .inl (fun j => nI ((zz_up rg ((ws + wn) % 64) w) j))))] H := hP
  have hD : va_D A [(aW, .inr (5, [.ref aWr, .int (nI ws), .int (nI wn)])), (aWr, .inl (cA, 64, .inl (fun j => nI ((zz_up rg ((ws + wn) % 64) w) j))))] := hD
  refine lv_aload_n hx hb d_W_append_18 rfl (lv_at hl 0 rfl) ?_
  refine lv_dup hx hb d_W_append_19 rfl ?_
  refine va_get (D := D) (ci := 5) (v := .int (nI wn)) (C := "DecodeTests$Waiting") (T := F_W) (N := 3) hx hb hT hin_W hown hK hP 0 rfl rfl 2 (by decide) (hT _ q_f_W_15) (fun _ h9 => h9) rfl d_W_append_20 ?_
  refine lv_iconst (v := nI 1) hx hb d_W_append_23 (by decide) ?_
  refine lv_iadd hx hb d_W_append_24 ?_
  refine zz_top (y := nI (wn + 1)) (nI_add wn 1) ?_
  refine va_put (D := D) (ci := 5) (v := .int (nI (wn + 1))) (ty := .int) (C := "DecodeTests$Waiting") (T := F_W) (N := 3) hx hb hT hin_W ft_W ft_W_ok n_W hown hK hP hD hS 0 rfl rfl 2 (by decide) (hT _ q_f_W_15) (fun _ h9 => h9) rfl (by decide +kernel) rfl rfl (Nat.le_of_ble_eq_true rfl) d_W_append_25 (fun H locs hP hD hS => ?_)
  have hP : va_P D vwCl [(aW, .inr (5, [.ref aWr, .int (nI ws), .int (nI (wn + 1))])), (aWr, .inl (cA, 64, .inl (fun j => nI ((zz_up rg ((ws + wn) % 64) w) j))))] H := hP
  have hD : va_D A [(aW, .inr (5, [.ref aWr, .int (nI ws), .int (nI (wn + 1))])), (aWr, .inl (cA, 64, .inl (fun j => nI ((zz_up rg ((ws + wn) % 64) w) j))))] := hD
  have hP : va_P D vwCl [(aW, .inr (5, [.ref aWr, .int (nI ws), .int (nI (wn + 1))])), (aWr, .inl (cA, 64, .inl (fun j => nI ((zz_up rg ((ws + wn) % 64) w) j))))] H := hP
  have hD : va_D A [(aW, .inr (5, [.ref aWr, .int (nI ws), .int (nI (wn + 1))])), (aWr, .inl (cA, 64, .inl (fun j => nI ((zz_up rg ((ws + wn) % 64) w) j))))] := hD
  exact W.vret hx hb hr (fun t ht hW => ⟨⟨(), rfl, trivial, by rw [ht]; exact hP, va_K.moved hW.alike hK, hD⟩, hS.F ht⟩) hS.2.2 d_W_append_28

set_option maxHeartbeats 4000000 in
set_option maxRecDepth 100000 in
theorem c_W_drop (l : Launch) (D : va_G) (cA : ClassId) (aW : Nat) (aWr : Nat) (ws : Nat) (wn : Nat) (rg : Nat → Nat) (k : Nat) (sz : Nat) (hs : ws < 64) (hk : k ≤ wn) (hn : wn ≤ 64) : Met l y_W_drop ws_W_drop ({ frames := 0, cells := 0, slots := 0, locals := 0 }) (va_Pc [.ref aW, .int (nI k)] (zz_preW D vwCl [(cA, .int)] [(aW, .inr (5, [.ref aWr, .int (nI ws), .int (nI wn)])), (aWr, .inl (cA, 64, .inl (fun j => nI (rg j))))] sz zz_nx)) (va_Qv (fun _ : Unit => True) (fun _ => zz_post D vwCl [(cA, .int)] (va_A [(aW, .inr (5, [.ref aWr, .int (nI ws), .int (nI wn)])), (aWr, .inl (cA, 64, .inl (fun j => nI (rg j))))] sz) [(aW, .inr (5, [.ref aWr, .int (nI ((ws + k) % 64)), .int (nI (wn - k))])), (aWr, .inl (cA, 64, .inl (fun j => nI (rg j))))]) (va_A [(aW, .inr (5, [.ref aWr, .int (nI ws), .int (nI wn)])), (aWr, .inl (cA, 64, .inl (fun j => nI (rg j))))] sz)) 0 0 (va_A [(aW, .inr (5, [.ref aWr, .int (nI ws), .int (nI wn)])), (aWr, .inl (cA, 64, .inl (fun j => nI (rg j))))] sz) := by
  refine Met.ofW (cc := b_W_drop) (maxL := 2) (ret := none) (by decide) rfl ?_
  intro p e s m args below meth c s₁ B hml hv
  obtain ⟨rfl, hsz, hP, hK, hD0, hX⟩ := hv
  have hx := B.exec
  have hb := B.bytes
  have hr := B.returns
  have hts := atoms_spec (ws := ws_W_drop) B.pre
  have hown : s.vm.findClass "DecodeTests$Waiting" = some m.cls := findClass_of_methodNamed B.named
  have hlocks := B.notSynchronized
  have hT : ∀ w9 ∈ zz_T, w9.before ([.ref aW, .int (nI k)] : List Value).toArray s = true := fun w9 h => hts w9 (List.mem_cons_of_mem _ h)
  subst hsz
  have hD := hD0.self (sz := s.heap.size)
  generalize hAe : va_A [(aW, .inr (5, [.ref aWr, .int (nI ws), .int (nI wn)])), (aWr, .inl (cA, 64, .inl (fun j => nI (rg j))))] s.heap.size = A at hD hX ⊢
  have hA : ∀ q : Nat, s.heap.size ≤ q → A q := fun q h => by rw [← hAe]; exact Or.inr h
  have hS : va_S A s.heap s.heap [] := va_S.rf
  have hl := lv_entry ([.ref aW, .int (nI k)]) (n := 2) (Nat.le_of_ble_eq_true rfl)
  rw [lg_entry_eq]
  generalize (lg_sl ([.ref aW, .int (nI k)]) ++ List.replicate (2 - (lg_sl ([.ref aW, .int (nI k)])).length) Slot.unset).toArray = ls at hl ⊢
  have hl : lv_has ls 2 [(0, .ref aW), (1, .int (nI k))] := hl
  refine lv_aload_n hx hb d_W_drop_0 rfl (lv_at hl 0 rfl) ?_
  refine lv_aload_n hx hb d_W_drop_1 rfl (lv_at hl 0 rfl) ?_
  refine va_get (D := D) (ci := 5) (v := .int (nI ws)) (C := "DecodeTests$Waiting") (T := F_W) (N := 3) hx hb hT hin_W hown hK hP 0 rfl rfl 1 (by decide) (hT _ q_f_W_19) (fun _ h9 => h9) rfl d_W_drop_2 ?_
  refine lv_iload_n hx hb d_W_drop_5 rfl (lv_at hl 1 rfl) ?_
  refine lv_iadd hx hb d_W_drop_6 ?_
  refine zz_top (y := nI (ws + k)) (nI_add ws k) ?_
  refine lv_bipush (v := nI 64) hx hb d_W_drop_7 (by decide) ?_
  refine lv_irem hx hb d_W_drop_9 (by decide) ?_
  refine zz_top (y := nI ((ws + k) % 64)) (pk_rem (by omega) (by omega) (by omega)) ?_
  refine va_put (D := D) (ci := 5) (v := .int (nI ((ws + k) % 64))) (ty := .int) (C := "DecodeTests$Waiting") (T := F_W) (N := 3) hx hb hT hin_W ft_W ft_W_ok n_W hown hK hP hD hS 0 rfl rfl 1 (by decide) (hT _ q_f_W_19) (fun _ h9 => h9) rfl (by decide +kernel) rfl rfl (Nat.le_of_ble_eq_true rfl) d_W_drop_10 (fun H locs hP hD hS => ?_)
  have hP : va_P D vwCl [(aW, .inr (5, [.ref aWr, .int (nI ((ws + k) % 64)), .int (nI wn)])), (aWr, .inl (cA, 64, .inl (fun j => nI (rg j))))] H := hP
  have hD : va_D A [(aW, .inr (5, [.ref aWr, .int (nI ((ws + k) % 64)), .int (nI wn)])), (aWr, .inl (cA, 64, .inl (fun j => nI (rg j))))] := hD
  refine lv_aload_n hx hb d_W_drop_13 rfl (lv_at hl 0 rfl) ?_
  refine lv_dup hx hb d_W_drop_14 rfl ?_
  refine va_get (D := D) (ci := 5) (v := .int (nI wn)) (C := "DecodeTests$Waiting") (T := F_W) (N := 3) hx hb hT hin_W hown hK hP 0 rfl rfl 2 (by decide) (hT _ q_f_W_15) (fun _ h9 => h9) rfl d_W_drop_15 ?_
  refine lv_iload_n hx hb d_W_drop_18 rfl (lv_at hl 1 rfl) ?_
  refine lv_isub hx hb d_W_drop_19 ?_
  refine zz_top (y := nI (wn - k)) (pk_sub (by omega)) ?_
  refine va_put (D := D) (ci := 5) (v := .int (nI (wn - k))) (ty := .int) (C := "DecodeTests$Waiting") (T := F_W) (N := 3) hx hb hT hin_W ft_W ft_W_ok n_W hown hK hP hD hS 0 rfl rfl 2 (by decide) (hT _ q_f_W_15) (fun _ h9 => h9) rfl (by decide +kernel) rfl rfl (Nat.le_of_ble_eq_true rfl) d_W_drop_20 (fun H locs hP hD hS => ?_)
  have hP : va_P D vwCl [(aW, .inr (5, [.ref aWr, .int (nI ((ws + k) % 64)), .int (nI (wn - k))])), (aWr, .inl (cA, 64, .inl (fun j => nI (rg j))))] H := hP
  have hD : va_D A [(aW, .inr (5, [.ref aWr, .int (nI ((ws + k) % 64)), .int (nI (wn - k))])), (aWr, .inl (cA, 64, .inl (fun j => nI (rg j))))] := hD
  have hP : va_P D vwCl [(aW, .inr (5, [.ref aWr, .int (nI ((ws + k) % 64)), .int (nI (wn - k))])), (aWr, .inl (cA, 64, .inl (fun j => nI (rg j))))] H := hP
  have hD : va_D A [(aW, .inr (5, [.ref aWr, .int (nI ((ws + k) % 64)), .int (nI (wn - k))])), (aWr, .inl (cA, 64, .inl (fun j => nI (rg j))))] := hD
  exact W.vret hx hb hr (fun t ht hW => ⟨⟨(), rfl, trivial, by rw [ht]; exact hP, va_K.moved hW.alike hK, hD⟩, hS.F ht⟩) hS.2.2 d_W_drop_23
