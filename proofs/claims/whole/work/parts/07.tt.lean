set_option maxHeartbeats 4000000 in
set_option maxRecDepth 100000 in
theorem c_T_outdate (l : Launch) (D : va_G) (cA : ClassId) (aT : Nat) (aTc : Nat) (aTw : Nat) (aTt : Nat) (bw : Nat) (G : Nat) (cm : Nat → Nat) (wo : Nat → Nat) (to : Nat → Nat) (cur : Bool) (sz : Nat) : Met l y_T_outdate ws_T_outdate ({ frames := 0, cells := 0, slots := 0, locals := 0 }) (va_Pc [.ref aT] (zz_preW D vwCl [(cA, .int)] [(aT, .inr (3, [.int (nI bw), .int (nI G), .ref aTc, .ref aTw, .ref aTt, .int (nI (zz_b cur))])), (aTc, .inl (cA, G, .inl (fun j => zz_o (cm j)))), (aTw, .inl (cA, G, .inl (fun j => nI (wo j)))), (aTt, .inl (cA, G, .inl (fun j => nI (to j))))] sz zz_nx)) (va_Qv (fun _ : Unit => True) (fun _ => zz_post D vwCl [(cA, .int)] (va_A [(aT, .inr (3, [.int (nI bw), .int (nI G), .ref aTc, .ref aTw, .ref aTt, .int (nI (zz_b cur))])), (aTc, .inl (cA, G, .inl (fun j => zz_o (cm j)))), (aTw, .inl (cA, G, .inl (fun j => nI (wo j)))), (aTt, .inl (cA, G, .inl (fun j => nI (to j))))] sz) [(aT, .inr (3, [.int (nI bw), .int (nI G), .ref aTc, .ref aTw, .ref aTt, .int (nI (zz_b false))])), (aTc, .inl (cA, G, .inl (fun j => zz_o (cm j)))), (aTw, .inl (cA, G, .inl (fun j => nI (wo j)))), (aTt, .inl (cA, G, .inl (fun j => nI (to j))))]) (va_A [(aT, .inr (3, [.int (nI bw), .int (nI G), .ref aTc, .ref aTw, .ref aTt, .int (nI (zz_b cur))])), (aTc, .inl (cA, G, .inl (fun j => zz_o (cm j)))), (aTw, .inl (cA, G, .inl (fun j => nI (wo j)))), (aTt, .inl (cA, G, .inl (fun j => nI (to j))))] sz)) 0 0 (va_A [(aT, .inr (3, [.int (nI bw), .int (nI G), .ref aTc, .ref aTw, .ref aTt, .int (nI (zz_b cur))])), (aTc, .inl (cA, G, .inl (fun j => zz_o (cm j)))), (aTw, .inl (cA, G, .inl (fun j => nI (wo j)))), (aTt, .inl (cA, G, .inl (fun j => nI (to j))))] sz) := by
  refine Met.ofW (cc := b_T_outdate) (maxL := 1) (ret := none) (by decide) rfl ?_
  intro p e s m args below meth c s₁ B hml hv
  obtain ⟨rfl, hsz, hP, hK, hD0, hX⟩ := hv
  have hx := B.exec
  have hb := B.bytes
  have hr := B.returns
  have hts := atoms_spec (ws := ws_T_outdate) B.pre
  have hown : s.vm.findClass "DecodeTests$Tables" = some m.cls := findClass_of_methodNamed B.named
  have hlocks := B.notSynchronized
  have hT : ∀ w9 ∈ zz_T, w9.before ([.ref aT] : List Value).toArray s = true := fun w9 h => hts w9 (List.mem_cons_of_mem _ h)
  subst hsz
  have hD := hD0.self (sz := s.heap.size)
  generalize hAe : va_A [(aT, .inr (3, [.int (nI bw), .int (nI G), .ref aTc, .ref aTw, .ref aTt, .int (nI (zz_b cur))])), (aTc, .inl (cA, G, .inl (fun j => zz_o (cm j)))), (aTw, .inl (cA, G, .inl (fun j => nI (wo j)))), (aTt, .inl (cA, G, .inl (fun j => nI (to j))))] s.heap.size = A at hD hX ⊢
  have hA : ∀ q : Nat, s.heap.size ≤ q → A q := fun q h => by rw [← hAe]; exact Or.inr h
  have hS : va_S A s.heap s.heap [] := va_S.rf
  have hl := lv_entry ([.ref aT]) (n := 1) (Nat.le_of_ble_eq_true rfl)
  rw [lg_entry_eq]
  generalize (lg_sl ([.ref aT]) ++ List.replicate (1 - (lg_sl ([.ref aT])).length) Slot.unset).toArray = ls at hl ⊢
  have hl : lv_has ls 1 [(0, .ref aT)] := hl
  refine lv_aload_n hx hb d_T_outdate_0 rfl (lv_at hl 0 rfl) ?_
  refine lv_iconst (v := nI 0) hx hb d_T_outdate_1 (by decide) ?_
  refine zz_top (y := nI (zz_b false)) (rfl) ?_
  refine va_put (D := D) (ci := 3) (v := .int (nI (zz_b false))) (ty := .boolean) (C := "DecodeTests$Tables") (T := F_T) (N := 6) hx hb hT hin_T ft_T ft_T_ok n_T hown hK hP hD hS 0 rfl rfl 5 (by decide) (hT _ q_f_T_31) (fun _ h9 => h9) rfl (by decide +kernel) rfl rfl (Nat.le_of_ble_eq_true rfl) d_T_outdate_2 (fun H locs hP hD hS => ?_)
  have hP : va_P D vwCl [(aT, .inr (3, [.int (nI bw), .int (nI G), .ref aTc, .ref aTw, .ref aTt, .int (nI (zz_b false))])), (aTc, .inl (cA, G, .inl (fun j => zz_o (cm j)))), (aTw, .inl (cA, G, .inl (fun j => nI (wo j)))), (aTt, .inl (cA, G, .inl (fun j => nI (to j))))] H := hP
  have hD : va_D A [(aT, .inr (3, [.int (nI bw), .int (nI G), .ref aTc, .ref aTw, .ref aTt, .int (nI (zz_b false))])), (aTc, .inl (cA, G, .inl (fun j => zz_o (cm j)))), (aTw, .inl (cA, G, .inl (fun j => nI (wo j)))), (aTt, .inl (cA, G, .inl (fun j => nI (to j))))] := hD
  have hP : va_P D vwCl [(aT, .inr (3, [.int (nI bw), .int (nI G), .ref aTc, .ref aTw, .ref aTt, .int (nI (zz_b false))])), (aTc, .inl (cA, G, .inl (fun j => zz_o (cm j)))), (aTw, .inl (cA, G, .inl (fun j => nI (wo j)))), (aTt, .inl (cA, G, .inl (fun j => nI (to j))))] H := hP
  have hD : va_D A [(aT, .inr (3, [.int (nI bw), .int (nI G), .ref aTc, .ref aTw, .ref aTt, .int (nI (zz_b false))])), (aTc, .inl (cA, G, .inl (fun j => zz_o (cm j)))), (aTw, .inl (cA, G, .inl (fun j => nI (wo j)))), (aTt, .inl (cA, G, .inl (fun j => nI (to j))))] := hD
  exact W.vret hx hb hr (fun t ht hW => ⟨⟨(), rfl, trivial, by rw [ht]; exact hP, va_K.moved hW.alike hK, hD⟩, hS.F ht⟩) hS.2.2 d_T_outdate_5

set_option maxHeartbeats 4000000 in
set_option maxRecDepth 100000 in
theorem c_T_allWords (l : Launch) (D : va_G) (cA : ClassId) (aT : Nat) (aTc : Nat) (aTw : Nat) (aTt : Nat) (bw : Nat) (G : Nat) (cm : Nat → Nat) (wo : Nat → Nat) (to : Nat → Nat) (cur : Bool) (hG1 : 1 ≤ G) : Met l y_T_allWords ws_T_allWords ({ frames := 0, cells := 0, slots := 0, locals := 0 }) (va_Pc [.ref aT] (zz_pre D vwCl [(cA, .int)] [(aT, .inr (3, [.int (nI bw), .int (nI G), .ref aTc, .ref aTw, .ref aTt, .int (nI (zz_b cur))])), (aTc, .inl (cA, G, .inl (fun j => zz_o (cm j)))), (aTw, .inl (cA, G, .inl (fun j => nI (wo j)))), (aTt, .inl (cA, G, .inl (fun j => nI (to j))))] zz_nx)) (QcRead (nI (G - 1))) 0 0 (fun _ => False) := by
  refine Met.ofW (cc := b_T_allWords) (maxL := 1) (ret := (some .int)) (by decide) rfl ?_
  intro p e s m args below meth c s₁ B hml hv
  obtain ⟨rfl, hP, hK, hX⟩ := hv
  have hS : va_S (fun _ => False) s.heap s.heap [] := va_S.rf
  have hx := B.exec
  have hb := B.bytes
  have hr := B.returns
  have hts := atoms_spec (ws := ws_T_allWords) B.pre
  have hown : s.vm.findClass "DecodeTests$Tables" = some m.cls := findClass_of_methodNamed B.named
  have hlocks := B.notSynchronized
  have hT : ∀ w9 ∈ zz_T, w9.before ([.ref aT] : List Value).toArray s = true := fun w9 h => hts w9 (List.mem_cons_of_mem _ h)
  have hl := lv_entry ([.ref aT]) (n := 1) (Nat.le_of_ble_eq_true rfl)
  rw [lg_entry_eq]
  generalize (lg_sl ([.ref aT]) ++ List.replicate (1 - (lg_sl ([.ref aT])).length) Slot.unset).toArray = ls at hl ⊢
  have hl : lv_has ls 1 [(0, .ref aT)] := hl
  refine lv_aload_n hx hb d_T_allWords_0 rfl (lv_at hl 0 rfl) ?_
  refine va_get (D := D) (ci := 3) (v := .int (nI G)) (C := "DecodeTests$Tables") (T := F_T) (N := 6) hx hb hT hin_T hown hK hP 0 rfl rfl 1 (by decide) (hT _ q_f_T_19) (fun _ h9 => h9) rfl d_T_allWords_1 ?_
  refine lv_iconst (v := nI 1) hx hb d_T_allWords_4 (by decide) ?_
  refine lv_isub hx hb d_T_allWords_5 ?_
  refine zz_top (y := nI (G - 1)) (pk_sub (by omega)) ?_
  exact W.iret (v := nI (G - 1)) hx hb hr (fun t ht _ => zz_rd (rfl) ht) (fun _ h => by cases h) d_T_allWords_6

set_option maxHeartbeats 4000000 in
set_option maxRecDepth 100000 in
theorem c_T_listOf (l : Launch) (D : va_G) (cA : ClassId) (aT : Nat) (aTc : Nat) (aTw : Nat) (aTt : Nat) (bw : Nat) (G : Nat) (cm : Nat → Nat) (wo : Nat → Nat) (to : Nat → Nat) (cur : Bool) (g : Nat) (hG : G ≤ 6561) (hg : g < G) : Met l y_T_listOf ws_T_listOf ({ frames := 0, cells := 0, slots := 0, locals := 0 }) (va_Pc [.ref aT, .int (nI g)] (zz_pre D vwCl [(cA, .int)] [(aT, .inr (3, [.int (nI bw), .int (nI G), .ref aTc, .ref aTw, .ref aTt, .int (nI (zz_b cur))])), (aTc, .inl (cA, G, .inl (fun j => zz_o (cm j)))), (aTw, .inl (cA, G, .inl (fun j => nI (wo j)))), (aTt, .inl (cA, G, .inl (fun j => nI (to j))))] zz_nx)) (QcRead (zz_o (cm g))) 0 0 (fun _ => False) := by
  refine Met.ofW (cc := b_T_listOf) (maxL := 2) (ret := (some .int)) (by decide) rfl ?_
  intro p e s m args below meth c s₁ B hml hv
  obtain ⟨rfl, hP, hK, hX⟩ := hv
  have hS : va_S (fun _ => False) s.heap s.heap [] := va_S.rf
  have hx := B.exec
  have hb := B.bytes
  have hr := B.returns
  have hts := atoms_spec (ws := ws_T_listOf) B.pre
  have hown : s.vm.findClass "DecodeTests$Tables" = some m.cls := findClass_of_methodNamed B.named
  have hlocks := B.notSynchronized
  have hT : ∀ w9 ∈ zz_T, w9.before ([.ref aT, .int (nI g)] : List Value).toArray s = true := fun w9 h => hts w9 (List.mem_cons_of_mem _ h)
  have hl := lv_entry ([.ref aT, .int (nI g)]) (n := 2) (Nat.le_of_ble_eq_true rfl)
  rw [lg_entry_eq]
  generalize (lg_sl ([.ref aT, .int (nI g)]) ++ List.replicate (2 - (lg_sl ([.ref aT, .int (nI g)])).length) Slot.unset).toArray = ls at hl ⊢
  have hl : lv_has ls 2 [(0, .ref aT), (1, .int (nI g))] := hl
  refine lv_aload_n hx hb d_T_listOf_0 rfl (lv_at hl 0 rfl) ?_
  refine va_get (D := D) (ci := 3) (v := .ref aTc) (C := "DecodeTests$Tables") (T := F_T) (N := 6) hx hb hT hin_T hown hK hP 0 rfl rfl 2 (by decide) (hT _ q_f_T_22) (fun _ h9 => h9) rfl d_T_listOf_1 ?_
  refine lv_iload_n hx hb d_T_listOf_4 rfl (lv_at hl 1 rfl) ?_
  refine zz_iald hx hb hK hP 1 0 rfl rfl (j := g) (by omega) (by omega) d_T_listOf_5 ?_
  refine zz_top (y := zz_o (cm g)) rfl ?_
  exact W.iret (v := zz_o (cm g)) hx hb hr (fun t ht _ => zz_rd (rfl) ht) (fun _ h => by cases h) d_T_listOf_6

set_option maxHeartbeats 4000000 in
set_option maxRecDepth 100000 in
theorem c_T_side (l : Launch) (D : va_G) (cA : ClassId) (t : Nat) (g : Nat) (b : Nat) (v : Nat) (hb : b < 9) (hv : v ≤ 1) (hs : (2 - v) * 3 ^ b ≤ g) : Met l y_T_side ws_T_side ({ frames := 0, cells := 0, slots := 0, locals := 0 }) (va_Pc [.int (nI g), .int (nI b), .int (nI v)] (zz_pre D vwCl [(cA, .int)] [] (zz_st t))) (QcRead (nI (g - (2 - v) * 3 ^ b))) 0 0 (fun _ => False) := by
  refine Met.ofW (cc := b_T_side) (maxL := 3) (ret := (some .int)) (by decide) rfl ?_
  intro p e s m args below meth c s₁ B hml hv
  obtain ⟨rfl, hP, hK, hX⟩ := hv
  have hS : va_S (fun _ => False) s.heap s.heap [] := va_S.rf
  have hx := B.exec
  have hb := B.bytes
  have hr := B.returns
  have hts := atoms_spec (ws := ws_T_side) B.pre
  have hown : s.vm.findClass "DecodeTests$Tables" = some m.cls := findClass_of_methodNamed B.named
  have hlocks := B.notSynchronized
  have hT : ∀ w9 ∈ zz_T, w9.before ([.int (nI g), .int (nI b), .int (nI v)] : List Value).toArray s = true := fun w9 h => hts w9 (List.mem_cons_of_mem _ h)
  have hl := lv_entry ([.int (nI g), .int (nI b), .int (nI v)]) (n := 3) (Nat.le_of_ble_eq_true rfl)
  rw [lg_entry_eq]
  generalize (lg_sl ([.int (nI g), .int (nI b), .int (nI v)]) ++ List.replicate (3 - (lg_sl ([.int (nI g), .int (nI b), .int (nI v)])).length) Slot.unset).toArray = ls at hl ⊢
  have hl : lv_has ls 3 [(0, .int (nI g)), (1, .int (nI b)), (2, .int (nI v))] := hl
  refine lv_iload_n hx hb d_T_side_0 rfl (lv_at hl 0 rfl) ?_
  refine lv_iconst (v := nI 2) hx hb d_T_side_1 (by decide) ?_
  refine lv_iload_n hx hb d_T_side_2 rfl (lv_at hl 2 rfl) ?_
  refine lv_isub hx hb d_T_side_3 ?_
  refine zz_top (y := nI (2 - v)) (pk_sub (by omega)) ?_
  refine va_gets hx hb hX.1 hS hown (hT _ q_f_T_15) (fun _ h9 => h9) d_T_side_4 ?_
  refine lv_iload_n hx hb d_T_side_7 rfl (lv_at hl 1 rfl) ?_
  refine va_ti hx hb hX.2 hS (vp_in_nI (n := b) (by omega) (by decide)) (v := .int (nI (3 ^ b))) (by rw [nI_clamp (by omega)]) d_T_side_8 ?_
  refine lv_imul hx hb d_T_side_9 ?_
  refine zz_top (y := nI ((2 - v) * (3 ^ b))) (pk_mul (2 - v) (3 ^ b)) ?_
  refine lv_isub hx hb d_T_side_10 ?_
  refine zz_top (y := nI (g - ((2 - v) * (3 ^ b)))) (pk_sub (by omega)) ?_
  exact W.iret (v := nI (g - ((2 - v) * (3 ^ b)))) hx hb hr (fun t ht _ => zz_rd (rfl) ht) (fun _ h => by cases h) d_T_side_11

set_option maxHeartbeats 4000000 in
set_option maxRecDepth 100000 in
theorem c_T_choice (l : Launch) (D : va_G) (cA : ClassId) (aT : Nat) (aTc : Nat) (aTw : Nat) (aTt : Nat) (bw : Nat) (G : Nat) (cm : Nat → Nat) (wo : Nat → Nat) (to : Nat → Nat) (cur : Bool) (kind : Nat) (g : Nat) (d : Nat) (hG : G ≤ 6561) (hW : bw ≤ 8) (hg : g < G) (hd : d < 256) (hk : kind < 3) (hcm : ∀ j, cm j ≤ 16384) : Met l y_T_choice ws_T_choice ({ frames := 0, cells := 0, slots := 0, locals := 0 }) (va_Pc [.ref aT, .int (nI kind), .int (nI g), .int (nI d)] (zz_pre D vwCl [(cA, .int)] [(aT, .inr (3, [.int (nI bw), .int (nI G), .ref aTc, .ref aTw, .ref aTt, .int (nI (zz_b cur))])), (aTc, .inl (cA, G, .inl (fun j => zz_o (cm j)))), (aTw, .inl (cA, G, .inl (fun j => nI (wo j)))), (aTt, .inl (cA, G, .inl (fun j => nI (to j))))] zz_nx)) (QcRead (zz_o (zT_choice bw cm wo to kind g d))) 0 0 (fun _ => False) := by
  refine Met.ofW (cc := b_T_choice) (maxL := 4) (ret := (some .int)) (by decide) rfl ?_
  intro p e s m args below meth c s₁ B hml hv
  obtain ⟨rfl, hP, hK, hX⟩ := hv
  have hS : va_S (fun _ => False) s.heap s.heap [] := va_S.rf
  have hx := B.exec
  have hb := B.bytes
  have hr := B.returns
  have hts := atoms_spec (ws := ws_T_choice) B.pre
  have hown : s.vm.findClass "DecodeTests$Tables" = some m.cls := findClass_of_methodNamed B.named
  have hlocks := B.notSynchronized
  have hT : ∀ w9 ∈ zz_T, w9.before ([.ref aT, .int (nI kind), .int (nI g), .int (nI d)] : List Value).toArray s = true := fun w9 h => hts w9 (List.mem_cons_of_mem _ h)
  have hl := lv_entry ([.ref aT, .int (nI kind), .int (nI g), .int (nI d)]) (n := 4) (Nat.le_of_ble_eq_true rfl)
  rw [lg_entry_eq]
  generalize (lg_sl ([.ref aT, .int (nI kind), .int (nI g), .int (nI d)]) ++ List.replicate (4 - (lg_sl ([.ref aT, .int (nI kind), .int (nI g), .int (nI d)])).length) Slot.unset).toArray = ls at hl ⊢
  have hl : lv_has ls 4 [(0, .ref aT), (1, .int (nI kind)), (2, .int (nI g)), (3, .int (nI d))] := hl
  have b1 := hcm g
  refine lv_iload_n hx hb d_T_choice_0 rfl (lv_at hl 3 rfl) ?_
  refine lv_aload_n hx hb d_T_choice_1 rfl (lv_at hl 0 rfl) ?_
  refine va_get (D := D) (ci := 3) (v := .int (nI bw)) (C := "DecodeTests$Tables") (T := F_T) (N := 6) hx hb hT hin_T hown hK hP 0 rfl rfl 0 (by decide) (hT _ q_f_T_9) (fun _ h9 => h9) rfl d_T_choice_2 ?_
  refine lv_icmp_ge (tgt := 18) hx hb d_T_choice_5 (by decide) (fun c5 => ?_) (fun c5 => ?_)
  · rw [zz_le (by omega) (by omega)] at c5
    refine lv_iconst (v := -1) hx hb d_T_choice_18 (by decide) ?_
    exact W.iret (v := -1) hx hb hr (fun t ht _ => zz_rd (by unfold zT_choice; rw [if_pos (by omega)]; rfl) ht) (fun _ h => by cases h) d_T_choice_19
  · rw [zz_le (by omega) (by omega)] at c5
    refine lv_aload_n hx hb d_T_choice_8 rfl (lv_at hl 0 rfl) ?_
    refine va_get (D := D) (ci := 3) (v := .ref aTc) (C := "DecodeTests$Tables") (T := F_T) (N := 6) hx hb hT hin_T hown hK hP 0 rfl rfl 2 (by decide) (hT _ q_f_T_22) (fun _ h9 => h9) rfl d_T_choice_9 ?_
    refine lv_iload_n hx hb d_T_choice_12 rfl (lv_at hl 2 rfl) ?_
    refine zz_iald hx hb hK hP 1 0 rfl rfl (j := g) (by omega) (by omega) d_T_choice_13 ?_
    refine zz_top (y := zz_o (cm g)) rfl ?_
    refine lv_iconst (v := -1) hx hb d_T_choice_14 (by decide) ?_
    refine lv_icmp_eq (tgt := 20) hx hb d_T_choice_15 (by decide) (fun c15 => ?_) (fun c15 => ?_)
    · rw [zz_o_none (by omega)] at c15
      refine lv_iload_n hx hb d_T_choice_20 rfl (lv_at hl 1 rfl) ?_
      refine lv_if_ne (tgt := 34) hx hb d_T_choice_21 (by decide) (fun c21 => ?_) (fun c21 => ?_)
      · rw [zz_eq0 (by omega)] at c21
        refine lv_iload_n hx hb d_T_choice_34 rfl (lv_at hl 1 rfl) ?_
        refine lv_iconst (v := nI 1) hx hb d_T_choice_35 (by decide) ?_
        refine lv_icmp_ne (tgt := 49) hx hb d_T_choice_36 (by decide) (fun c36 => ?_) (fun c36 => ?_)
        · rw [zz_eq (by omega) (by omega)] at c36
          refine lv_aload_n hx hb d_T_choice_49 rfl (lv_at hl 0 rfl) ?_
          refine va_get (D := D) (ci := 3) (v := .int (nI bw)) (C := "DecodeTests$Tables") (T := F_T) (N := 6) hx hb hT hin_T hown hK hP 0 rfl rfl 0 (by decide) (hT _ q_f_T_9) (fun _ h9 => h9) rfl d_T_choice_50 ?_
          refine lv_iconst (v := nI 1) hx hb d_T_choice_53 (by decide) ?_
          refine lv_isub hx hb d_T_choice_54 ?_
          refine zz_top (y := nI (bw - 1)) (pk_sub (by omega)) ?_
          refine lv_iload_n hx hb d_T_choice_55 rfl (lv_at hl 3 rfl) ?_
          refine lv_isub hx hb d_T_choice_56 ?_
          refine zz_top (y := nI (bw - 1 - d)) (pk_sub (by omega)) ?_
          exact W.iret (v := nI (bw - 1 - d)) hx hb hr (fun t ht _ => zz_rd (by unfold zT_choice; rw [if_neg (by omega), if_neg c21, if_neg c36]; rfl) ht) (fun _ h => by cases h) d_T_choice_57
        · rw [zz_eq (by omega) (by omega)] at c36
          refine lv_aload_n hx hb d_T_choice_39 rfl (lv_at hl 0 rfl) ?_
          refine va_get (D := D) (ci := 3) (v := .ref aTt) (C := "DecodeTests$Tables") (T := F_T) (N := 6) hx hb hT hin_T hown hK hP 0 rfl rfl 4 (by decide) (hT _ q_f_T_28) (fun _ h9 => h9) rfl d_T_choice_40 ?_
          refine lv_iload_n hx hb d_T_choice_43 rfl (lv_at hl 2 rfl) ?_
          refine zz_iald hx hb hK hP 3 0 rfl rfl (j := g) (by omega) (by omega) d_T_choice_44 ?_
          refine zz_top (y := nI (to g)) rfl ?_
          refine lv_bipush (v := nI 7) hx hb d_T_choice_45 (by decide) ?_
          refine lv_iand hx hb d_T_choice_47 ?_
          refine zz_top (y := nI ((to g) &&& 7)) (zz_and (to g) 7) ?_
          exact W.iret (v := nI ((to g) &&& 7)) hx hb hr (fun t ht _ => zz_rd (by unfold zT_choice; rw [if_neg (by omega), if_neg c21, if_pos c36]; rfl) ht) (fun _ h => by cases h) d_T_choice_48
      · rw [zz_eq0 (by omega)] at c21
        refine lv_aload_n hx hb d_T_choice_24 rfl (lv_at hl 0 rfl) ?_
        refine va_get (D := D) (ci := 3) (v := .ref aTw) (C := "DecodeTests$Tables") (T := F_T) (N := 6) hx hb hT hin_T hown hK hP 0 rfl rfl 3 (by decide) (hT _ q_f_T_25) (fun _ h9 => h9) rfl d_T_choice_25 ?_
        refine lv_iload_n hx hb d_T_choice_28 rfl (lv_at hl 2 rfl) ?_
        refine zz_iald hx hb hK hP 2 0 rfl rfl (j := g) (by omega) (by omega) d_T_choice_29 ?_
        refine zz_top (y := nI (wo g)) rfl ?_
        refine lv_bipush (v := nI 7) hx hb d_T_choice_30 (by decide) ?_
        refine lv_iand hx hb d_T_choice_32 ?_
        refine zz_top (y := nI ((wo g) &&& 7)) (zz_and (wo g) 7) ?_
        exact W.iret (v := nI ((wo g) &&& 7)) hx hb hr (fun t ht _ => zz_rd (by unfold zT_choice; rw [if_neg (by omega), if_pos c21]; rfl) ht) (fun _ h => by cases h) d_T_choice_33
    · rw [zz_o_none (by omega)] at c15
      refine lv_iconst (v := -1) hx hb d_T_choice_18 (by decide) ?_
      exact W.iret (v := -1) hx hb hr (fun t ht _ => zz_rd (by unfold zT_choice; rw [if_pos (by omega)]; rfl) ht) (fun _ h => by cases h) d_T_choice_19

set_option maxHeartbeats 4000000 in
set_option maxRecDepth 100000 in
theorem c_T_deepestBelow (l : Launch) (D : va_G) (cA : ClassId) (t : Nat) (aT : Nat) (aTc : Nat) (aTw : Nat) (aTt : Nat) (bw : Nat) (G : Nat) (cm : Nat → Nat) (wo : Nat → Nat) (to : Nat → Nat) (cur : Bool) (kind : Nat) (V : Nat → Nat → Prop) (hG : G ≤ 6561) (hW : bw ≤ 8) (hk : kind < 3) (hcm : ∀ j, cm j ≤ 16384) (hV : zT_V bw G cm wo to kind V) : ∀ (f : Nat) (g : Nat) (d : Nat), (V g d) → (bw < d + f) → (f ≤ 9) → Met l y_T_deepestBelow ws_T_deepestBelow ({ frames := f + 2, cells := 0, slots := 0, locals := 26 * f + 40 }) (va_Pc [.ref aT, .int (nI kind), .int (nI g), .int (nI d)] (zz_pre D vwCl [(cA, .int)] [(aT, .inr (3, [.int (nI bw), .int (nI G), .ref aTc, .ref aTw, .ref aTt, .int (nI (zz_b cur))])), (aTc, .inl (cA, G, .inl (fun j => zz_o (cm j)))), (aTw, .inl (cA, G, .inl (fun j => nI (wo j)))), (aTt, .inl (cA, G, .inl (fun j => nI (to j))))] (zz_st t))) (QcRead (nI (zT_deep (zT_choice bw cm wo to kind) f g d))) 0 0 (fun _ => False) := by
  intro f
  induction f with
  | zero => intro g d hg hf hf9; exact absurd (zT_V_d hV hg) (by omega)
  | succ f ih =>
    intro g d hg hf hf9
    refine Met.ofW (cc := b_T_deepestBelow) (maxL := 7) (ret := (some .int)) (by decide) rfl ?_
    intro p e s m args below meth c s₁ B hml hv
    obtain ⟨rfl, hP, hK, hX⟩ := hv
    have hS : va_S (fun _ => False) s.heap s.heap [] := va_S.rf
    have hx := B.exec
    have hb := B.bytes
    have hr := B.returns
    have hts := atoms_spec (ws := ws_T_deepestBelow) B.pre
    have hown : s.vm.findClass "DecodeTests$Tables" = some m.cls := findClass_of_methodNamed B.named
    have hlocks := B.notSynchronized
    have hT : ∀ w9 ∈ zz_T, w9.before ([.ref aT, .int (nI kind), .int (nI g), .int (nI d)] : List Value).toArray s = true := fun w9 h => hts w9 (List.mem_cons_of_mem _ h)
    have hl := lv_entry ([.ref aT, .int (nI kind), .int (nI g), .int (nI d)]) (n := 7) (Nat.le_of_ble_eq_true rfl)
    rw [lg_entry_eq]
    generalize (lg_sl ([.ref aT, .int (nI kind), .int (nI g), .int (nI d)]) ++ List.replicate (7 - (lg_sl ([.ref aT, .int (nI kind), .int (nI g), .int (nI d)])).length) Slot.unset).toArray = ls at hl ⊢
    have hl : lv_has ls 7 [(0, .ref aT), (1, .int (nI kind)), (2, .int (nI g)), (3, .int (nI d))] := hl
    obtain ⟨hdW, hgG, hnx⟩ := hV g d hg
    have b1 := hcm g
    have hcl : zT_choice bw cm wo to kind g d ≤ bw := zT_V_c hV hg
    refine lv_aload_n hx hb d_T_deepestBelow_0 rfl (lv_at hl 0 rfl) ?_
    refine lv_iload_n hx hb d_T_deepestBelow_1 rfl (lv_at hl 1 rfl) ?_
    refine lv_iload_n hx hb d_T_deepestBelow_2 rfl (lv_at hl 2 rfl) ?_
    refine lv_iload_n hx hb d_T_deepestBelow_3 rfl (lv_at hl 3 rfl) ?_
    refine zz_rV (As := [.int (nI kind), .int (nI g), .int (nI d)]) (rest := []) (r := zz_o (zT_choice bw cm wo to kind g d)) ⟨hx, hb, hml, hown, hts⟩ (c_T_choice l _ _ aT aTc aTw aTt bw G cm wo to cur kind g d (by omega) (by omega) (by omega) (by omega) (by omega) (by omega)) (cwV 3 hts g_T_deepestBelow_78 rfl rfl rfl k_T_choice ⟨show 0 + 1 ≤ ((f + 1) + 2) by omega, show 8 + (4 + 11) + 0 ≤ (26 * (f + 1) + 40) by omega⟩) (zz_blind_nx) hK (hP.sub (ws' := [(aT, .inr (3, [.int (nI bw), .int (nI G), .ref aTc, .ref aTw, .ref aTt, .int (nI (zz_b cur))])), (aTc, .inl (cA, G, .inl (fun j => zz_o (cm j)))), (aTw, .inl (cA, G, .inl (fun j => nI (wo j)))), (aTt, .inl (cA, G, .inl (fun j => nI (to j))))]) [0, 1, 2, 3] rfl) (fun _ _ _ => trivial) 3 0 rfl rfl rfl hl.1 rfl (Nat.le_of_ble_eq_true rfl) d_T_deepestBelow_4 ⟨Nat.zero_le _, Nat.zero_le _⟩ ?_
    refine lv_istore (lv' := [(4, .int (zz_o (zT_choice bw cm wo to kind g d))), (0, .ref aT), (1, .int (nI kind)), (2, .int (nI g)), (3, .int (nI d))]) hx hb d_T_deepestBelow_7 hl (by decide) rfl (fun ls hl => ?_)
    refine lv_iload hx hb d_T_deepestBelow_9 (lv_at hl 0 rfl) ?_
    refine lv_iconst (v := -1) hx hb d_T_deepestBelow_11 (by decide) ?_
    refine lv_icmp_ne (tgt := 17) hx hb d_T_deepestBelow_12 (by decide) (fun c12 => ?_) (fun c12 => ?_)
    · rw [zz_o_none (by omega)] at c12
      obtain ⟨hb1, hb2, hb3, hV0, hV1⟩ := hnx c12
      have hb4 : (2 - 1) * 3 ^ (zT_choice bw cm wo to kind g d - 1) ≤ g := by omega
      refine lv_aload_n hx hb d_T_deepestBelow_17 rfl (lv_at hl 1 rfl) ?_
      refine lv_iload_n hx hb d_T_deepestBelow_18 rfl (lv_at hl 2 rfl) ?_
      refine lv_iload_n hx hb d_T_deepestBelow_19 rfl (lv_at hl 3 rfl) ?_
      refine lv_iload hx hb d_T_deepestBelow_20 (lv_at hl 0 rfl) ?_
      refine zz_top (y := nI (zT_choice bw cm wo to kind g d - 1)) (zz_o_p c12) ?_
      refine lv_iconst (v := nI 0) hx hb d_T_deepestBelow_22 (by decide) ?_
      refine zz_rS (As := [.int (nI g), .int (nI (zT_choice bw cm wo to kind g d - 1)), .int (nI 0)]) (rest := [.int (nI kind), .ref aT]) (r := nI (g - (2 - 0) * 3 ^ (zT_choice bw cm wo to kind g d - 1))) ⟨hx, hb, hml, hown, hts⟩ (c_T_side l _ _ _ g (zT_choice bw cm wo to kind g d - 1) 0 (by omega) (by omega) (by omega)) (va_cwS 3 hts g_T_deepestBelow_54 rfl rfl rfl k_T_side.2 ⟨show 0 + 1 ≤ ((f + 1) + 2) by omega, show 8 + (3 + 11) + 0 ≤ (26 * (f + 1) + 40) by omega⟩) (zz_blind_st t) hK (hP.sub (ws' := []) [] rfl) (fun U hU hW => zz_st_use hX hS hU hW (fun _ h => h.elim)) rfl hl.1 rfl (Nat.le_of_ble_eq_true rfl) d_T_deepestBelow_23 ⟨Nat.zero_le _, Nat.zero_le _⟩ ?_
      refine lv_iload_n hx hb d_T_deepestBelow_26 rfl (lv_at hl 4 rfl) ?_
      refine lv_iconst (v := nI 1) hx hb d_T_deepestBelow_27 (by decide) ?_
      refine lv_iadd hx hb d_T_deepestBelow_28 ?_
      refine zz_top (y := nI (d + 1)) (nI_add d 1) ?_
      refine zz_rS (As := [.ref aT, .int (nI kind), .int (nI (g - (2 - 0) * 3 ^ (zT_choice bw cm wo to kind g d - 1))), .int (nI (d + 1))]) (rest := []) (r := nI (zT_deep (zT_choice bw cm wo to kind) f (g - (2 - 0) * 3 ^ (zT_choice bw cm wo to kind g d - 1)) (d + 1))) ⟨hx, hb, hml, hown, hts⟩ (ih (g - (2 - 0) * 3 ^ (zT_choice bw cm wo to kind g d - 1)) (d + 1) (hV0) (by omega) (by omega)) (va_cwS 4 hts g_T_deepestBelow_74 rfl rfl rfl k_T_deepestBelow.2 ⟨show (f + 2) + 1 ≤ ((f + 1) + 2) by omega, show 8 + (7 + 11) + (26 * f + 40) ≤ (26 * (f + 1) + 40) by omega⟩) (zz_blind_st t) hK (hP.sub (ws' := [(aT, .inr (3, [.int (nI bw), .int (nI G), .ref aTc, .ref aTw, .ref aTt, .int (nI (zz_b cur))])), (aTc, .inl (cA, G, .inl (fun j => zz_o (cm j)))), (aTw, .inl (cA, G, .inl (fun j => nI (wo j)))), (aTt, .inl (cA, G, .inl (fun j => nI (to j))))]) [0, 1, 2, 3] rfl) (fun U hU hW => zz_st_use hX hS hU hW (fun _ h => h.elim)) rfl hl.1 rfl (Nat.le_of_ble_eq_true rfl) d_T_deepestBelow_29 ⟨Nat.zero_le _, Nat.zero_le _⟩ ?_
      refine lv_istore (lv' := [(5, .int (nI (zT_deep (zT_choice bw cm wo to kind) f (g - (2 - 0) * 3 ^ (zT_choice bw cm wo to kind g d - 1)) (d + 1)))), (4, .int (zz_o (zT_choice bw cm wo to kind g d))), (0, .ref aT), (1, .int (nI kind)), (2, .int (nI g)), (3, .int (nI d))]) hx hb d_T_deepestBelow_32 hl (by decide) rfl (fun ls hl => ?_)
      refine lv_aload_n hx hb d_T_deepestBelow_34 rfl (lv_at hl 2 rfl) ?_
      refine lv_iload_n hx hb d_T_deepestBelow_35 rfl (lv_at hl 3 rfl) ?_
      refine lv_iload_n hx hb d_T_deepestBelow_36 rfl (lv_at hl 4 rfl) ?_
      refine lv_iload hx hb d_T_deepestBelow_37 (lv_at hl 1 rfl) ?_
      refine zz_top (y := nI (zT_choice bw cm wo to kind g d - 1)) (zz_o_p c12) ?_
      refine lv_iconst (v := nI 1) hx hb d_T_deepestBelow_39 (by decide) ?_
      refine zz_rS (As := [.int (nI g), .int (nI (zT_choice bw cm wo to kind g d - 1)), .int (nI 1)]) (rest := [.int (nI kind), .ref aT]) (r := nI (g - (2 - 1) * 3 ^ (zT_choice bw cm wo to kind g d - 1))) ⟨hx, hb, hml, hown, hts⟩ (c_T_side l _ _ _ g (zT_choice bw cm wo to kind g d - 1) 1 (by omega) (by omega) (by omega)) (va_cwS 3 hts g_T_deepestBelow_54 rfl rfl rfl k_T_side.2 ⟨show 0 + 1 ≤ ((f + 1) + 2) by omega, show 8 + (3 + 11) + 0 ≤ (26 * (f + 1) + 40) by omega⟩) (zz_blind_st t) hK (hP.sub (ws' := []) [] rfl) (fun U hU hW => zz_st_use hX hS hU hW (fun _ h => h.elim)) rfl hl.1 rfl (Nat.le_of_ble_eq_true rfl) d_T_deepestBelow_40 ⟨Nat.zero_le _, Nat.zero_le _⟩ ?_
      refine lv_iload_n hx hb d_T_deepestBelow_43 rfl (lv_at hl 5 rfl) ?_
      refine lv_iconst (v := nI 1) hx hb d_T_deepestBelow_44 (by decide) ?_
      refine lv_iadd hx hb d_T_deepestBelow_45 ?_
      refine zz_top (y := nI (d + 1)) (nI_add d 1) ?_
      refine zz_rS (As := [.ref aT, .int (nI kind), .int (nI (g - (2 - 1) * 3 ^ (zT_choice bw cm wo to kind g d - 1))), .int (nI (d + 1))]) (rest := []) (r := nI (zT_deep (zT_choice bw cm wo to kind) f (g - (2 - 1) * 3 ^ (zT_choice bw cm wo to kind g d - 1)) (d + 1))) ⟨hx, hb, hml, hown, hts⟩ (ih (g - (2 - 1) * 3 ^ (zT_choice bw cm wo to kind g d - 1)) (d + 1) (hV1) (by omega) (by omega)) (va_cwS 4 hts g_T_deepestBelow_74 rfl rfl rfl k_T_deepestBelow.2 ⟨show (f + 2) + 1 ≤ ((f + 1) + 2) by omega, show 8 + (7 + 11) + (26 * f + 40) ≤ (26 * (f + 1) + 40) by omega⟩) (zz_blind_st t) hK (hP.sub (ws' := [(aT, .inr (3, [.int (nI bw), .int (nI G), .ref aTc, .ref aTw, .ref aTt, .int (nI (zz_b cur))])), (aTc, .inl (cA, G, .inl (fun j => zz_o (cm j)))), (aTw, .inl (cA, G, .inl (fun j => nI (wo j)))), (aTt, .inl (cA, G, .inl (fun j => nI (to j))))]) [0, 1, 2, 3] rfl) (fun U hU hW => zz_st_use hX hS hU hW (fun _ h => h.elim)) rfl hl.1 rfl (Nat.le_of_ble_eq_true rfl) d_T_deepestBelow_46 ⟨Nat.zero_le _, Nat.zero_le _⟩ ?_
      refine lv_istore (lv' := [(6, .int (nI (zT_deep (zT_choice bw cm wo to kind) f (g - (2 - 1) * 3 ^ (zT_choice bw cm wo to kind g d - 1)) (d + 1)))), (5, .int (nI (zT_deep (zT_choice bw cm wo to kind) f (g - (2 - 0) * 3 ^ (zT_choice bw cm wo to kind g d - 1)) (d + 1)))), (4, .int (zz_o (zT_choice bw cm wo to kind g d))), (0, .ref aT), (1, .int (nI kind)), (2, .int (nI g)), (3, .int (nI d))]) hx hb d_T_deepestBelow_49 hl (by decide) rfl (fun ls hl => ?_)
      have e0 := zT_deep_le (ch := zT_choice bw cm wo to kind) f (g - (2 - 0) * 3 ^ (zT_choice bw cm wo to kind g d - 1)) (d + 1)
      have e1 := zT_deep_le (ch := zT_choice bw cm wo to kind) f (g - (2 - 1) * 3 ^ (zT_choice bw cm wo to kind g d - 1)) (d + 1)
      refine lv_iconst (v := nI 1) hx hb d_T_deepestBelow_51 (by decide) ?_
      refine lv_iload hx hb d_T_deepestBelow_52 (lv_at hl 1 rfl) ?_
      refine lv_iload hx hb d_T_deepestBelow_54 (lv_at hl 0 rfl) ?_
      refine zz_rS (As := [.int (nI (zT_deep (zT_choice bw cm wo to kind) f (g - (2 - 0) * 3 ^ (zT_choice bw cm wo to kind g d - 1)) (d + 1))), .int (nI (zT_deep (zT_choice bw cm wo to kind) f (g - (2 - 1) * 3 ^ (zT_choice bw cm wo to kind g d - 1)) (d + 1)))]) (rest := [.int (nI 1)]) (r := nI (max (zT_deep (zT_choice bw cm wo to kind) f (g - (2 - 0) * 3 ^ (zT_choice bw cm wo to kind g d - 1)) (d + 1)) (zT_deep (zT_choice bw cm wo to kind) f (g - (2 - 1) * 3 ^ (zT_choice bw cm wo to kind g d - 1)) (d + 1)))) ⟨hx, hb, hml, hown, hts⟩ (c_JM_max l _ _ (zT_deep (zT_choice bw cm wo to kind) f (g - (2 - 0) * 3 ^ (zT_choice bw cm wo to kind g d - 1)) (d + 1)) (zT_deep (zT_choice bw cm wo to kind) f (g - (2 - 1) * 3 ^ (zT_choice bw cm wo to kind g d - 1)) (d + 1)) (by omega) (by omega)) (va_cwS 2 hts g_T_deepestBelow_59 rfl rfl rfl k_JM_max.2 ⟨show 0 + 1 ≤ ((f + 1) + 2) by omega, show 8 + (2 + 11) + 0 ≤ (26 * (f + 1) + 40) by omega⟩) (zz_blind_nx) hK (hP.sub (ws' := []) [] rfl) (fun _ _ _ => trivial) rfl hl.1 rfl (Nat.le_of_ble_eq_true rfl) d_T_deepestBelow_56 ⟨Nat.zero_le _, Nat.zero_le _⟩ ?_
      refine lv_iadd hx hb d_T_deepestBelow_59 ?_
      refine zz_top (y := nI (1 + (max (zT_deep (zT_choice bw cm wo to kind) f (g - (2 - 0) * 3 ^ (zT_choice bw cm wo to kind g d - 1)) (d + 1)) (zT_deep (zT_choice bw cm wo to kind) f (g - (2 - 1) * 3 ^ (zT_choice bw cm wo to kind g d - 1)) (d + 1))))) (nI_add 1 (max (zT_deep (zT_choice bw cm wo to kind) f (g - (2 - 0) * 3 ^ (zT_choice bw cm wo to kind g d - 1)) (d + 1)) (zT_deep (zT_choice bw cm wo to kind) f (g - (2 - 1) * 3 ^ (zT_choice bw cm wo to kind g d - 1)) (d + 1)))) ?_
      exact W.iret (v := nI (1 + (max (zT_deep (zT_choice bw cm wo to kind) f (g - (2 - 0) * 3 ^ (zT_choice bw cm wo to kind g d - 1)) (d + 1)) (zT_deep (zT_choice bw cm wo to kind) f (g - (2 - 1) * 3 ^ (zT_choice bw cm wo to kind g d - 1)) (d + 1))))) hx hb hr (fun t ht _ => zz_rd (by rw [zT_deep, if_neg c12]) ht) (fun _ h => by cases h) d_T_deepestBelow_60
    · rw [zz_o_none (by omega)] at c12
      refine lv_iconst (v := nI 0) hx hb d_T_deepestBelow_15 (by decide) ?_
      exact W.iret (v := nI 0) hx hb hr (fun t ht _ => zz_rd (by simp [zT_deep, c12]) ht) (fun _ h => by cases h) d_T_deepestBelow_16

set_option maxHeartbeats 4000000 in
set_option maxRecDepth 100000 in
theorem c_T_totalBelow (l : Launch) (D : va_G) (cA : ClassId) (t : Nat) (aT : Nat) (aTc : Nat) (aTw : Nat) (aTt : Nat) (bw : Nat) (G : Nat) (cm : Nat → Nat) (wo : Nat → Nat) (to : Nat → Nat) (cur : Bool) (kind : Nat) (V : Nat → Nat → Prop) (hG : G ≤ 6561) (hW : bw ≤ 8) (hk : kind < 3) (hcm : ∀ j, cm j ≤ 16384) (hV : zT_V bw G cm wo to kind V) : ∀ (f : Nat) (g : Nat) (d : Nat), (V g d) → (bw < d + f) → (f ≤ 9) → Met l y_T_totalBelow ws_T_totalBelow ({ frames := f + 2, cells := 0, slots := 0, locals := 26 * f + 40 }) (va_Pc [.ref aT, .int (nI kind), .int (nI g), .int (nI d)] (zz_pre D vwCl [(cA, .int)] [(aT, .inr (3, [.int (nI bw), .int (nI G), .ref aTc, .ref aTw, .ref aTt, .int (nI (zz_b cur))])), (aTc, .inl (cA, G, .inl (fun j => zz_o (cm j)))), (aTw, .inl (cA, G, .inl (fun j => nI (wo j)))), (aTt, .inl (cA, G, .inl (fun j => nI (to j))))] (zz_st t))) (QcRead (nI (zT_total (zT_choice bw cm wo to kind) bw f g d))) 0 0 (fun _ => False) := by
  intro f
  induction f with
  | zero => intro g d hg hf hf9; exact absurd (zT_V_d hV hg) (by omega)
  | succ f ih =>
    intro g d hg hf hf9
    refine Met.ofW (cc := b_T_totalBelow) (maxL := 7) (ret := (some .int)) (by decide) rfl ?_
    intro p e s m args below meth c s₁ B hml hv
    obtain ⟨rfl, hP, hK, hX⟩ := hv
    have hS : va_S (fun _ => False) s.heap s.heap [] := va_S.rf
    have hx := B.exec
    have hb := B.bytes
    have hr := B.returns
    have hts := atoms_spec (ws := ws_T_totalBelow) B.pre
    have hown : s.vm.findClass "DecodeTests$Tables" = some m.cls := findClass_of_methodNamed B.named
    have hlocks := B.notSynchronized
    have hT : ∀ w9 ∈ zz_T, w9.before ([.ref aT, .int (nI kind), .int (nI g), .int (nI d)] : List Value).toArray s = true := fun w9 h => hts w9 (List.mem_cons_of_mem _ h)
    have hl := lv_entry ([.ref aT, .int (nI kind), .int (nI g), .int (nI d)]) (n := 7) (Nat.le_of_ble_eq_true rfl)
    rw [lg_entry_eq]
    generalize (lg_sl ([.ref aT, .int (nI kind), .int (nI g), .int (nI d)]) ++ List.replicate (7 - (lg_sl ([.ref aT, .int (nI kind), .int (nI g), .int (nI d)])).length) Slot.unset).toArray = ls at hl ⊢
    have hl : lv_has ls 7 [(0, .ref aT), (1, .int (nI kind)), (2, .int (nI g)), (3, .int (nI d))] := hl
    obtain ⟨hdW, hgG, hnx⟩ := hV g d hg
    have b1 := hcm g
    have hcl : zT_choice bw cm wo to kind g d ≤ bw := zT_V_c hV hg
    refine lv_aload_n hx hb d_T_totalBelow_0 rfl (lv_at hl 0 rfl) ?_
    refine lv_iload_n hx hb d_T_totalBelow_1 rfl (lv_at hl 1 rfl) ?_
    refine lv_iload_n hx hb d_T_totalBelow_2 rfl (lv_at hl 2 rfl) ?_
    refine lv_iload_n hx hb d_T_totalBelow_3 rfl (lv_at hl 3 rfl) ?_
    refine zz_rV (As := [.int (nI kind), .int (nI g), .int (nI d)]) (rest := []) (r := zz_o (zT_choice bw cm wo to kind g d)) ⟨hx, hb, hml, hown, hts⟩ (c_T_choice l _ _ aT aTc aTw aTt bw G cm wo to cur kind g d (by omega) (by omega) (by omega) (by omega) (by omega) (by omega)) (cwV 3 hts g_T_totalBelow_78 rfl rfl rfl k_T_choice ⟨show 0 + 1 ≤ ((f + 1) + 2) by omega, show 8 + (4 + 11) + 0 ≤ (26 * (f + 1) + 40) by omega⟩) (zz_blind_nx) hK (hP.sub (ws' := [(aT, .inr (3, [.int (nI bw), .int (nI G), .ref aTc, .ref aTw, .ref aTt, .int (nI (zz_b cur))])), (aTc, .inl (cA, G, .inl (fun j => zz_o (cm j)))), (aTw, .inl (cA, G, .inl (fun j => nI (wo j)))), (aTt, .inl (cA, G, .inl (fun j => nI (to j))))]) [0, 1, 2, 3] rfl) (fun _ _ _ => trivial) 3 0 rfl rfl rfl hl.1 rfl (Nat.le_of_ble_eq_true rfl) d_T_totalBelow_4 ⟨Nat.zero_le _, Nat.zero_le _⟩ ?_
    refine lv_istore (lv' := [(4, .int (zz_o (zT_choice bw cm wo to kind g d))), (0, .ref aT), (1, .int (nI kind)), (2, .int (nI g)), (3, .int (nI d))]) hx hb d_T_totalBelow_7 hl (by decide) rfl (fun ls hl => ?_)
    refine lv_iload hx hb d_T_totalBelow_9 (lv_at hl 0 rfl) ?_
    refine lv_iconst (v := -1) hx hb d_T_totalBelow_11 (by decide) ?_
    refine lv_icmp_ne (tgt := 17) hx hb d_T_totalBelow_12 (by decide) (fun c12 => ?_) (fun c12 => ?_)
    · rw [zz_o_none (by omega)] at c12
      obtain ⟨hb1, hb2, hb3, hV0, hV1⟩ := hnx c12
      have hb4 : (2 - 1) * 3 ^ (zT_choice bw cm wo to kind g d - 1) ≤ g := by omega
      refine lv_aload_n hx hb d_T_totalBelow_17 rfl (lv_at hl 1 rfl) ?_
      refine lv_iload_n hx hb d_T_totalBelow_18 rfl (lv_at hl 2 rfl) ?_
      refine lv_iload_n hx hb d_T_totalBelow_19 rfl (lv_at hl 3 rfl) ?_
      refine lv_iload hx hb d_T_totalBelow_20 (lv_at hl 0 rfl) ?_
      refine zz_top (y := nI (zT_choice bw cm wo to kind g d - 1)) (zz_o_p c12) ?_
      refine lv_iconst (v := nI 0) hx hb d_T_totalBelow_22 (by decide) ?_
      refine zz_rS (As := [.int (nI g), .int (nI (zT_choice bw cm wo to kind g d - 1)), .int (nI 0)]) (rest := [.int (nI kind), .ref aT]) (r := nI (g - (2 - 0) * 3 ^ (zT_choice bw cm wo to kind g d - 1))) ⟨hx, hb, hml, hown, hts⟩ (c_T_side l _ _ _ g (zT_choice bw cm wo to kind g d - 1) 0 (by omega) (by omega) (by omega)) (va_cwS 3 hts g_T_totalBelow_54 rfl rfl rfl k_T_side.2 ⟨show 0 + 1 ≤ ((f + 1) + 2) by omega, show 8 + (3 + 11) + 0 ≤ (26 * (f + 1) + 40) by omega⟩) (zz_blind_st t) hK (hP.sub (ws' := []) [] rfl) (fun U hU hW => zz_st_use hX hS hU hW (fun _ h => h.elim)) rfl hl.1 rfl (Nat.le_of_ble_eq_true rfl) d_T_totalBelow_23 ⟨Nat.zero_le _, Nat.zero_le _⟩ ?_
      refine lv_iload_n hx hb d_T_totalBelow_26 rfl (lv_at hl 4 rfl) ?_
      refine lv_iconst (v := nI 1) hx hb d_T_totalBelow_27 (by decide) ?_
      refine lv_iadd hx hb d_T_totalBelow_28 ?_
      refine zz_top (y := nI (d + 1)) (nI_add d 1) ?_
      refine zz_rS (As := [.ref aT, .int (nI kind), .int (nI (g - (2 - 0) * 3 ^ (zT_choice bw cm wo to kind g d - 1))), .int (nI (d + 1))]) (rest := []) (r := nI (zT_total (zT_choice bw cm wo to kind) bw f (g - (2 - 0) * 3 ^ (zT_choice bw cm wo to kind g d - 1)) (d + 1))) ⟨hx, hb, hml, hown, hts⟩ (ih (g - (2 - 0) * 3 ^ (zT_choice bw cm wo to kind g d - 1)) (d + 1) (hV0) (by omega) (by omega)) (va_cwS 4 hts g_T_totalBelow_81 rfl rfl rfl k_T_totalBelow.2 ⟨show (f + 2) + 1 ≤ ((f + 1) + 2) by omega, show 8 + (7 + 11) + (26 * f + 40) ≤ (26 * (f + 1) + 40) by omega⟩) (zz_blind_st t) hK (hP.sub (ws' := [(aT, .inr (3, [.int (nI bw), .int (nI G), .ref aTc, .ref aTw, .ref aTt, .int (nI (zz_b cur))])), (aTc, .inl (cA, G, .inl (fun j => zz_o (cm j)))), (aTw, .inl (cA, G, .inl (fun j => nI (wo j)))), (aTt, .inl (cA, G, .inl (fun j => nI (to j))))]) [0, 1, 2, 3] rfl) (fun U hU hW => zz_st_use hX hS hU hW (fun _ h => h.elim)) rfl hl.1 rfl (Nat.le_of_ble_eq_true rfl) d_T_totalBelow_29 ⟨Nat.zero_le _, Nat.zero_le _⟩ ?_
      refine lv_istore (lv' := [(5, .int (nI (zT_total (zT_choice bw cm wo to kind) bw f (g - (2 - 0) * 3 ^ (zT_choice bw cm wo to kind g d - 1)) (d + 1)))), (4, .int (zz_o (zT_choice bw cm wo to kind g d))), (0, .ref aT), (1, .int (nI kind)), (2, .int (nI g)), (3, .int (nI d))]) hx hb d_T_totalBelow_32 hl (by decide) rfl (fun ls hl => ?_)
      refine lv_aload_n hx hb d_T_totalBelow_34 rfl (lv_at hl 2 rfl) ?_
      refine lv_iload_n hx hb d_T_totalBelow_35 rfl (lv_at hl 3 rfl) ?_
      refine lv_iload_n hx hb d_T_totalBelow_36 rfl (lv_at hl 4 rfl) ?_
      refine lv_iload hx hb d_T_totalBelow_37 (lv_at hl 1 rfl) ?_
      refine zz_top (y := nI (zT_choice bw cm wo to kind g d - 1)) (zz_o_p c12) ?_
      refine lv_iconst (v := nI 1) hx hb d_T_totalBelow_39 (by decide) ?_
      refine zz_rS (As := [.int (nI g), .int (nI (zT_choice bw cm wo to kind g d - 1)), .int (nI 1)]) (rest := [.int (nI kind), .ref aT]) (r := nI (g - (2 - 1) * 3 ^ (zT_choice bw cm wo to kind g d - 1))) ⟨hx, hb, hml, hown, hts⟩ (c_T_side l _ _ _ g (zT_choice bw cm wo to kind g d - 1) 1 (by omega) (by omega) (by omega)) (va_cwS 3 hts g_T_totalBelow_54 rfl rfl rfl k_T_side.2 ⟨show 0 + 1 ≤ ((f + 1) + 2) by omega, show 8 + (3 + 11) + 0 ≤ (26 * (f + 1) + 40) by omega⟩) (zz_blind_st t) hK (hP.sub (ws' := []) [] rfl) (fun U hU hW => zz_st_use hX hS hU hW (fun _ h => h.elim)) rfl hl.1 rfl (Nat.le_of_ble_eq_true rfl) d_T_totalBelow_40 ⟨Nat.zero_le _, Nat.zero_le _⟩ ?_
      refine lv_iload_n hx hb d_T_totalBelow_43 rfl (lv_at hl 5 rfl) ?_
      refine lv_iconst (v := nI 1) hx hb d_T_totalBelow_44 (by decide) ?_
      refine lv_iadd hx hb d_T_totalBelow_45 ?_
      refine zz_top (y := nI (d + 1)) (nI_add d 1) ?_
      refine zz_rS (As := [.ref aT, .int (nI kind), .int (nI (g - (2 - 1) * 3 ^ (zT_choice bw cm wo to kind g d - 1))), .int (nI (d + 1))]) (rest := []) (r := nI (zT_total (zT_choice bw cm wo to kind) bw f (g - (2 - 1) * 3 ^ (zT_choice bw cm wo to kind g d - 1)) (d + 1))) ⟨hx, hb, hml, hown, hts⟩ (ih (g - (2 - 1) * 3 ^ (zT_choice bw cm wo to kind g d - 1)) (d + 1) (hV1) (by omega) (by omega)) (va_cwS 4 hts g_T_totalBelow_81 rfl rfl rfl k_T_totalBelow.2 ⟨show (f + 2) + 1 ≤ ((f + 1) + 2) by omega, show 8 + (7 + 11) + (26 * f + 40) ≤ (26 * (f + 1) + 40) by omega⟩) (zz_blind_st t) hK (hP.sub (ws' := [(aT, .inr (3, [.int (nI bw), .int (nI G), .ref aTc, .ref aTw, .ref aTt, .int (nI (zz_b cur))])), (aTc, .inl (cA, G, .inl (fun j => zz_o (cm j)))), (aTw, .inl (cA, G, .inl (fun j => nI (wo j)))), (aTt, .inl (cA, G, .inl (fun j => nI (to j))))]) [0, 1, 2, 3] rfl) (fun U hU hW => zz_st_use hX hS hU hW (fun _ h => h.elim)) rfl hl.1 rfl (Nat.le_of_ble_eq_true rfl) d_T_totalBelow_46 ⟨Nat.zero_le _, Nat.zero_le _⟩ ?_
      refine lv_istore (lv' := [(6, .int (nI (zT_total (zT_choice bw cm wo to kind) bw f (g - (2 - 1) * 3 ^ (zT_choice bw cm wo to kind g d - 1)) (d + 1)))), (5, .int (nI (zT_total (zT_choice bw cm wo to kind) bw f (g - (2 - 0) * 3 ^ (zT_choice bw cm wo to kind g d - 1)) (d + 1)))), (4, .int (zz_o (zT_choice bw cm wo to kind g d))), (0, .ref aT), (1, .int (nI kind)), (2, .int (nI g)), (3, .int (nI d))]) hx hb d_T_totalBelow_49 hl (by decide) rfl (fun ls hl => ?_)
      have e9 := zz_2le (a := 1) (b := bw - d) (by omega)
      refine lv_iconst (v := nI 1) hx hb d_T_totalBelow_51 (by decide) ?_
      refine lv_aload_n hx hb d_T_totalBelow_52 rfl (lv_at hl 3 rfl) ?_
      refine va_get (D := D) (ci := 3) (v := .int (nI bw)) (C := "DecodeTests$Tables") (T := F_T) (N := 6) hx hb hT hin_T hown hK hP 0 rfl rfl 0 (by decide) (hT _ q_f_T_9) (fun _ h9 => h9) rfl d_T_totalBelow_53 ?_
      refine lv_iload_n hx hb d_T_totalBelow_56 rfl (lv_at hl 6 rfl) ?_
      refine lv_isub hx hb d_T_totalBelow_57 ?_
      refine zz_top (y := nI (bw - d)) (pk_sub (by omega)) ?_
      refine lv_ishl hx hb d_T_totalBelow_58 ?_
      refine zz_top (y := nI (1 * 2 ^ (bw - d))) (zz_shl (by omega) (by omega)) ?_
      refine lv_iload hx hb d_T_totalBelow_59 (lv_at hl 1 rfl) ?_
      refine lv_iadd hx hb d_T_totalBelow_61 ?_
      refine zz_top (y := nI ((1 * 2 ^ (bw - d)) + (zT_total (zT_choice bw cm wo to kind) bw f (g - (2 - 0) * 3 ^ (zT_choice bw cm wo to kind g d - 1)) (d + 1)))) (nI_add (1 * 2 ^ (bw - d)) (zT_total (zT_choice bw cm wo to kind) bw f (g - (2 - 0) * 3 ^ (zT_choice bw cm wo to kind g d - 1)) (d + 1))) ?_
      refine lv_iload hx hb d_T_totalBelow_62 (lv_at hl 0 rfl) ?_
      refine lv_iadd hx hb d_T_totalBelow_64 ?_
      refine zz_top (y := nI (((1 * 2 ^ (bw - d)) + (zT_total (zT_choice bw cm wo to kind) bw f (g - (2 - 0) * 3 ^ (zT_choice bw cm wo to kind g d - 1)) (d + 1))) + (zT_total (zT_choice bw cm wo to kind) bw f (g - (2 - 1) * 3 ^ (zT_choice bw cm wo to kind g d - 1)) (d + 1)))) (nI_add ((1 * 2 ^ (bw - d)) + (zT_total (zT_choice bw cm wo to kind) bw f (g - (2 - 0) * 3 ^ (zT_choice bw cm wo to kind g d - 1)) (d + 1))) (zT_total (zT_choice bw cm wo to kind) bw f (g - (2 - 1) * 3 ^ (zT_choice bw cm wo to kind g d - 1)) (d + 1))) ?_
      exact W.iret (v := nI (((1 * 2 ^ (bw - d)) + (zT_total (zT_choice bw cm wo to kind) bw f (g - (2 - 0) * 3 ^ (zT_choice bw cm wo to kind g d - 1)) (d + 1))) + (zT_total (zT_choice bw cm wo to kind) bw f (g - (2 - 1) * 3 ^ (zT_choice bw cm wo to kind g d - 1)) (d + 1)))) hx hb hr (fun t ht _ => zz_rd (by rw [zT_total, if_neg c12]) ht) (fun _ h => by cases h) d_T_totalBelow_65
    · rw [zz_o_none (by omega)] at c12
      refine lv_iconst (v := nI 0) hx hb d_T_totalBelow_15 (by decide) ?_
      exact W.iret (v := nI 0) hx hb hr (fun t ht _ => zz_rd (by simp [zT_total, c12]) ht) (fun _ h => by cases h) d_T_totalBelow_16

set_option maxHeartbeats 4000000 in
set_option maxRecDepth 100000 in
theorem c_T_deepest (l : Launch) (D : va_G) (cA : ClassId) (t : Nat) (aT : Nat) (aTc : Nat) (aTw : Nat) (aTt : Nat) (bw : Nat) (G : Nat) (cm : Nat → Nat) (wo : Nat → Nat) (to : Nat → Nat) (cur : Bool) (kind : Nat) (V : Nat → Nat → Prop) (hG : G ≤ 6561) (hW : bw ≤ 8) (hk : kind < 3) (hcm : ∀ j, cm j ≤ 16384) (hV : zT_V bw G cm wo to kind V) (hG1 : 1 ≤ G) (hV0 : V (G - 1) 0) : Met l y_T_deepest ws_T_deepest ({ frames := 12, cells := 0, slots := 0, locals := 300 }) (va_Pc [.ref aT, .int (nI kind)] (zz_pre D vwCl [(cA, .int)] [(aT, .inr (3, [.int (nI bw), .int (nI G), .ref aTc, .ref aTw, .ref aTt, .int (nI (zz_b cur))])), (aTc, .inl (cA, G, .inl (fun j => zz_o (cm j)))), (aTw, .inl (cA, G, .inl (fun j => nI (wo j)))), (aTt, .inl (cA, G, .inl (fun j => nI (to j))))] (zz_st t))) (QcRead (nI (zT_deep (zT_choice bw cm wo to kind) (bw + 1) (G - 1) 0))) 0 0 (fun _ => False) := by
  refine Met.ofW (cc := b_T_deepest) (maxL := 2) (ret := (some .int)) (by decide) rfl ?_
  intro p e s m args below meth c s₁ B hml hv
  obtain ⟨rfl, hP, hK, hX⟩ := hv
  have hS : va_S (fun _ => False) s.heap s.heap [] := va_S.rf
  have hx := B.exec
  have hb := B.bytes
  have hr := B.returns
  have hts := atoms_spec (ws := ws_T_deepest) B.pre
  have hown : s.vm.findClass "DecodeTests$Tables" = some m.cls := findClass_of_methodNamed B.named
  have hlocks := B.notSynchronized
  have hT : ∀ w9 ∈ zz_T, w9.before ([.ref aT, .int (nI kind)] : List Value).toArray s = true := fun w9 h => hts w9 (List.mem_cons_of_mem _ h)
  have hl := lv_entry ([.ref aT, .int (nI kind)]) (n := 2) (Nat.le_of_ble_eq_true rfl)
  rw [lg_entry_eq]
  generalize (lg_sl ([.ref aT, .int (nI kind)]) ++ List.replicate (2 - (lg_sl ([.ref aT, .int (nI kind)])).length) Slot.unset).toArray = ls at hl ⊢
  have hl : lv_has ls 2 [(0, .ref aT), (1, .int (nI kind))] := hl
  refine lv_aload_n hx hb d_T_deepest_0 rfl (lv_at hl 0 rfl) ?_
  refine lv_iload_n hx hb d_T_deepest_1 rfl (lv_at hl 1 rfl) ?_
  refine lv_aload_n hx hb d_T_deepest_2 rfl (lv_at hl 0 rfl) ?_
  refine zz_rV (As := []) (rest := [.int (nI kind), .ref aT]) (r := nI (G - 1)) ⟨hx, hb, hml, hown, hts⟩ (c_T_allWords l _ _ aT aTc aTw aTt bw G cm wo to cur (by omega)) (cwV 0 hts g_T_deepest_70 rfl rfl rfl k_T_allWords ⟨show 0 + 1 ≤ 12 by omega, show 8 + (1 + 11) + 0 ≤ 300 by omega⟩) (zz_blind_nx) hK (hP.sub (ws' := [(aT, .inr (3, [.int (nI bw), .int (nI G), .ref aTc, .ref aTw, .ref aTt, .int (nI (zz_b cur))])), (aTc, .inl (cA, G, .inl (fun j => zz_o (cm j)))), (aTw, .inl (cA, G, .inl (fun j => nI (wo j)))), (aTt, .inl (cA, G, .inl (fun j => nI (to j))))]) [0, 1, 2, 3] rfl) (fun _ _ _ => trivial) 3 0 rfl rfl rfl hl.1 rfl (Nat.le_of_ble_eq_true rfl) d_T_deepest_3 ⟨Nat.zero_le _, Nat.zero_le _⟩ ?_
  refine lv_iconst (v := nI 0) hx hb d_T_deepest_6 (by decide) ?_
  refine zz_rS (As := [.ref aT, .int (nI kind), .int (nI (G - 1)), .int (nI 0)]) (rest := []) (r := nI (zT_deep (zT_choice bw cm wo to kind) (bw + 1) (G - 1) 0)) ⟨hx, hb, hml, hown, hts⟩ (c_T_deepestBelow l _ _ _ aT aTc aTw aTt bw G cm wo to cur kind V (by omega) (by omega) (by omega) (hcm) (hV) (bw + 1) (G - 1) 0 (hV0) (by omega) (by omega)) (va_cwS 4 hts g_T_deepest_74 rfl rfl rfl k_T_deepestBelow.2 ⟨show ((bw + 1) + 2) + 1 ≤ 12 by omega, show 8 + (7 + 11) + (26 * (bw + 1) + 40) ≤ 300 by omega⟩) (zz_blind_st t) hK (hP.sub (ws' := [(aT, .inr (3, [.int (nI bw), .int (nI G), .ref aTc, .ref aTw, .ref aTt, .int (nI (zz_b cur))])), (aTc, .inl (cA, G, .inl (fun j => zz_o (cm j)))), (aTw, .inl (cA, G, .inl (fun j => nI (wo j)))), (aTt, .inl (cA, G, .inl (fun j => nI (to j))))]) [0, 1, 2, 3] rfl) (fun U hU hW => zz_st_use hX hS hU hW (fun _ h => h.elim)) rfl hl.1 rfl (Nat.le_of_ble_eq_true rfl) d_T_deepest_7 ⟨Nat.zero_le _, Nat.zero_le _⟩ ?_
  exact W.iret (v := nI (zT_deep (zT_choice bw cm wo to kind) (bw + 1) (G - 1) 0)) hx hb hr (fun t ht _ => zz_rd (rfl) ht) (fun _ h => by cases h) d_T_deepest_10

set_option maxHeartbeats 4000000 in
set_option maxRecDepth 100000 in
theorem c_T_total (l : Launch) (D : va_G) (cA : ClassId) (t : Nat) (aT : Nat) (aTc : Nat) (aTw : Nat) (aTt : Nat) (bw : Nat) (G : Nat) (cm : Nat → Nat) (wo : Nat → Nat) (to : Nat → Nat) (cur : Bool) (kind : Nat) (V : Nat → Nat → Prop) (hG : G ≤ 6561) (hW : bw ≤ 8) (hk : kind < 3) (hcm : ∀ j, cm j ≤ 16384) (hV : zT_V bw G cm wo to kind V) (hG1 : 1 ≤ G) (hV0 : V (G - 1) 0) : Met l y_T_total ws_T_total ({ frames := 12, cells := 0, slots := 0, locals := 300 }) (va_Pc [.ref aT, .int (nI kind)] (zz_pre D vwCl [(cA, .int)] [(aT, .inr (3, [.int (nI bw), .int (nI G), .ref aTc, .ref aTw, .ref aTt, .int (nI (zz_b cur))])), (aTc, .inl (cA, G, .inl (fun j => zz_o (cm j)))), (aTw, .inl (cA, G, .inl (fun j => nI (wo j)))), (aTt, .inl (cA, G, .inl (fun j => nI (to j))))] (zz_st t))) (QcRead (nI (zT_total (zT_choice bw cm wo to kind) bw (bw + 1) (G - 1) 0))) 0 0 (fun _ => False) := by
  refine Met.ofW (cc := b_T_total) (maxL := 2) (ret := (some .int)) (by decide) rfl ?_
  intro p e s m args below meth c s₁ B hml hv
  obtain ⟨rfl, hP, hK, hX⟩ := hv
  have hS : va_S (fun _ => False) s.heap s.heap [] := va_S.rf
  have hx := B.exec
  have hb := B.bytes
  have hr := B.returns
  have hts := atoms_spec (ws := ws_T_total) B.pre
  have hown : s.vm.findClass "DecodeTests$Tables" = some m.cls := findClass_of_methodNamed B.named
  have hlocks := B.notSynchronized
  have hT : ∀ w9 ∈ zz_T, w9.before ([.ref aT, .int (nI kind)] : List Value).toArray s = true := fun w9 h => hts w9 (List.mem_cons_of_mem _ h)
  have hl := lv_entry ([.ref aT, .int (nI kind)]) (n := 2) (Nat.le_of_ble_eq_true rfl)
  rw [lg_entry_eq]
  generalize (lg_sl ([.ref aT, .int (nI kind)]) ++ List.replicate (2 - (lg_sl ([.ref aT, .int (nI kind)])).length) Slot.unset).toArray = ls at hl ⊢
  have hl : lv_has ls 2 [(0, .ref aT), (1, .int (nI kind))] := hl
  refine lv_aload_n hx hb d_T_total_0 rfl (lv_at hl 0 rfl) ?_
  refine lv_iload_n hx hb d_T_total_1 rfl (lv_at hl 1 rfl) ?_
  refine lv_aload_n hx hb d_T_total_2 rfl (lv_at hl 0 rfl) ?_
  refine zz_rV (As := []) (rest := [.int (nI kind), .ref aT]) (r := nI (G - 1)) ⟨hx, hb, hml, hown, hts⟩ (c_T_allWords l _ _ aT aTc aTw aTt bw G cm wo to cur (by omega)) (cwV 0 hts g_T_total_70 rfl rfl rfl k_T_allWords ⟨show 0 + 1 ≤ 12 by omega, show 8 + (1 + 11) + 0 ≤ 300 by omega⟩) (zz_blind_nx) hK (hP.sub (ws' := [(aT, .inr (3, [.int (nI bw), .int (nI G), .ref aTc, .ref aTw, .ref aTt, .int (nI (zz_b cur))])), (aTc, .inl (cA, G, .inl (fun j => zz_o (cm j)))), (aTw, .inl (cA, G, .inl (fun j => nI (wo j)))), (aTt, .inl (cA, G, .inl (fun j => nI (to j))))]) [0, 1, 2, 3] rfl) (fun _ _ _ => trivial) 3 0 rfl rfl rfl hl.1 rfl (Nat.le_of_ble_eq_true rfl) d_T_total_3 ⟨Nat.zero_le _, Nat.zero_le _⟩ ?_
  refine lv_iconst (v := nI 0) hx hb d_T_total_6 (by decide) ?_
  refine zz_rS (As := [.ref aT, .int (nI kind), .int (nI (G - 1)), .int (nI 0)]) (rest := []) (r := nI (zT_total (zT_choice bw cm wo to kind) bw (bw + 1) (G - 1) 0)) ⟨hx, hb, hml, hown, hts⟩ (c_T_totalBelow l _ _ _ aT aTc aTw aTt bw G cm wo to cur kind V (by omega) (by omega) (by omega) (hcm) (hV) (bw + 1) (G - 1) 0 (hV0) (by omega) (by omega)) (va_cwS 4 hts g_T_total_81 rfl rfl rfl k_T_totalBelow.2 ⟨show ((bw + 1) + 2) + 1 ≤ 12 by omega, show 8 + (7 + 11) + (26 * (bw + 1) + 40) ≤ 300 by omega⟩) (zz_blind_st t) hK (hP.sub (ws' := [(aT, .inr (3, [.int (nI bw), .int (nI G), .ref aTc, .ref aTw, .ref aTt, .int (nI (zz_b cur))])), (aTc, .inl (cA, G, .inl (fun j => zz_o (cm j)))), (aTw, .inl (cA, G, .inl (fun j => nI (wo j)))), (aTt, .inl (cA, G, .inl (fun j => nI (to j))))]) [0, 1, 2, 3] rfl) (fun U hU hW => zz_st_use hX hS hU hW (fun _ h => h.elim)) rfl hl.1 rfl (Nat.le_of_ble_eq_true rfl) d_T_total_7 ⟨Nat.zero_le _, Nat.zero_le _⟩ ?_
  exact W.iret (v := nI (zT_total (zT_choice bw cm wo to kind) bw (bw + 1) (G - 1) 0)) hx hb hr (fun t ht _ => zz_rd (rfl) ht) (fun _ h => by cases h) d_T_total_10

set_option maxHeartbeats 4000000 in
set_option maxRecDepth 100000 in
theorem c_T_commonOfSides (l : Launch) (D : va_G) (cA : ClassId) (t : Nat) (aT : Nat) (aTc : Nat) (aTw : Nat) (aTt : Nat) (bw : Nat) (G : Nat) (cm : Nat → Nat) (wo : Nat → Nat) (to : Nat → Nat) (cur : Bool) (g : Nat) (fr : Nat) (hG : G ≤ 6561) (hg : g < G) (hfr : fr < 256) (hf0 : 0 < fr) (hcm : ∀ j, cm j ≤ 16384) (hs : (2 - 0) * 3 ^ zz_ntz 8 fr ≤ g) : Met l y_T_commonOfSides ws_T_commonOfSides ({ frames := 1, cells := 0, slots := 0, locals := 22 }) (va_Pc [.ref aT, .int (nI g), .int (nI fr)] (zz_pre D vwCl [(cA, .int)] [(aT, .inr (3, [.int (nI bw), .int (nI G), .ref aTc, .ref aTw, .ref aTt, .int (nI (zz_b cur))])), (aTc, .inl (cA, G, .inl (fun j => zz_o (cm j)))), (aTw, .inl (cA, G, .inl (fun j => nI (wo j)))), (aTt, .inl (cA, G, .inl (fun j => nI (to j))))] (zz_st t))) (QcRead (zz_o (zT_cs cm g fr))) 0 0 (fun _ => False) := by
  refine Met.ofW (cc := b_T_commonOfSides) (maxL := 5) (ret := (some .int)) (by decide) rfl ?_
  intro p e s m args below meth c s₁ B hml hv
  obtain ⟨rfl, hP, hK, hX⟩ := hv
  have hS : va_S (fun _ => False) s.heap s.heap [] := va_S.rf
  have hx := B.exec
  have hb := B.bytes
  have hr := B.returns
  have hts := atoms_spec (ws := ws_T_commonOfSides) B.pre
  have hown : s.vm.findClass "DecodeTests$Tables" = some m.cls := findClass_of_methodNamed B.named
  have hlocks := B.notSynchronized
  have hT : ∀ w9 ∈ zz_T, w9.before ([.ref aT, .int (nI g), .int (nI fr)] : List Value).toArray s = true := fun w9 h => hts w9 (List.mem_cons_of_mem _ h)
  have hl := lv_entry ([.ref aT, .int (nI g), .int (nI fr)]) (n := 5) (Nat.le_of_ble_eq_true rfl)
  rw [lg_entry_eq]
  generalize (lg_sl ([.ref aT, .int (nI g), .int (nI fr)]) ++ List.replicate (5 - (lg_sl ([.ref aT, .int (nI g), .int (nI fr)])).length) Slot.unset).toArray = ls at hl ⊢
  have hl : lv_has ls 5 [(0, .ref aT), (1, .int (nI g)), (2, .int (nI fr))] := hl
  have hz := zz_ntz_le 8 fr
  have hs1 : (2 - 1) * 3 ^ zz_ntz 8 fr ≤ g := by omega
  have b1 := hcm (g - (2 - 0) * 3 ^ zz_ntz 8 fr)
  have b2 := hcm (g - (2 - 1) * 3 ^ zz_ntz 8 fr)
  refine lv_iload_n hx hb d_T_commonOfSides_0 rfl (lv_at hl 2 rfl) ?_
  refine zz_rS (As := [.int (nI fr)]) (rest := []) (r := nI (zz_ntz 8 fr)) ⟨hx, hb, hml, hown, hts⟩ (c_JI_numberOfTrailingZeros l _ _ fr (by omega) (by omega)) (va_cwS 1 hts g_T_commonOfSides_49 rfl rfl rfl k_JI_numberOfTrailingZeros.2 ⟨show 0 + 1 ≤ 1 by omega, show 8 + (2 + 11) + 0 ≤ 22 by omega⟩) (zz_blind_nx) hK (hP.sub (ws' := []) [] rfl) (fun _ _ _ => trivial) rfl hl.1 rfl (Nat.le_of_ble_eq_true rfl) d_T_commonOfSides_1 ⟨Nat.zero_le _, Nat.zero_le _⟩ ?_
  refine lv_istore_n (lv' := [(3, .int (nI (zz_ntz 8 fr))), (0, .ref aT), (1, .int (nI g)), (2, .int (nI fr))]) hx hb d_T_commonOfSides_4 rfl hl (by decide) rfl (fun ls hl => ?_)
  refine lv_aload_n hx hb d_T_commonOfSides_5 rfl (lv_at hl 1 rfl) ?_
  refine va_get (D := D) (ci := 3) (v := .ref aTc) (C := "DecodeTests$Tables") (T := F_T) (N := 6) hx hb hT hin_T hown hK hP 0 rfl rfl 2 (by decide) (hT _ q_f_T_22) (fun _ h9 => h9) rfl d_T_commonOfSides_6 ?_
  refine lv_iload_n hx hb d_T_commonOfSides_9 rfl (lv_at hl 2 rfl) ?_
  refine lv_iload_n hx hb d_T_commonOfSides_10 rfl (lv_at hl 0 rfl) ?_
  refine lv_iconst (v := nI 0) hx hb d_T_commonOfSides_11 (by decide) ?_
  refine zz_rS (As := [.int (nI g), .int (nI (zz_ntz 8 fr)), .int (nI 0)]) (rest := [.ref aTc]) (r := nI (g - (2 - 0) * 3 ^ (zz_ntz 8 fr))) ⟨hx, hb, hml, hown, hts⟩ (c_T_side l _ _ _ g (zz_ntz 8 fr) 0 (by omega) (by omega) (by omega)) (va_cwS 3 hts g_T_commonOfSides_54 rfl rfl rfl k_T_side.2 ⟨show 0 + 1 ≤ 1 by omega, show 8 + (3 + 11) + 0 ≤ 22 by omega⟩) (zz_blind_st t) hK (hP.sub (ws' := []) [] rfl) (fun U hU hW => zz_st_use hX hS hU hW (fun _ h => h.elim)) rfl hl.1 rfl (Nat.le_of_ble_eq_true rfl) d_T_commonOfSides_12 ⟨Nat.zero_le _, Nat.zero_le _⟩ ?_
  refine zz_iald hx hb hK hP 1 0 rfl rfl (j := g - (2 - 0) * 3 ^ (zz_ntz 8 fr)) (by omega) (by omega) d_T_commonOfSides_15 ?_
  refine zz_top (y := zz_o (cm (g - (2 - 0) * 3 ^ (zz_ntz 8 fr)))) rfl ?_
  refine lv_istore (lv' := [(4, .int (zz_o (cm (g - (2 - 0) * 3 ^ (zz_ntz 8 fr))))), (3, .int (nI (zz_ntz 8 fr))), (0, .ref aT), (1, .int (nI g)), (2, .int (nI fr))]) hx hb d_T_commonOfSides_16 hl (by decide) rfl (fun ls hl => ?_)
  refine lv_iload hx hb d_T_commonOfSides_18 (lv_at hl 0 rfl) ?_
  refine lv_aload_n hx hb d_T_commonOfSides_20 rfl (lv_at hl 2 rfl) ?_
  refine va_get (D := D) (ci := 3) (v := .ref aTc) (C := "DecodeTests$Tables") (T := F_T) (N := 6) hx hb hT hin_T hown hK hP 0 rfl rfl 2 (by decide) (hT _ q_f_T_22) (fun _ h9 => h9) rfl d_T_commonOfSides_21 ?_
  refine lv_iload_n hx hb d_T_commonOfSides_24 rfl (lv_at hl 3 rfl) ?_
  refine lv_iload_n hx hb d_T_commonOfSides_25 rfl (lv_at hl 1 rfl) ?_
  refine lv_iconst (v := nI 1) hx hb d_T_commonOfSides_26 (by decide) ?_
  refine zz_rS (As := [.int (nI g), .int (nI (zz_ntz 8 fr)), .int (nI 1)]) (rest := [.ref aTc, .int (zz_o (cm (g - (2 - 0) * 3 ^ (zz_ntz 8 fr))))]) (r := nI (g - (2 - 1) * 3 ^ (zz_ntz 8 fr))) ⟨hx, hb, hml, hown, hts⟩ (c_T_side l _ _ _ g (zz_ntz 8 fr) 1 (by omega) (by omega) (by omega)) (va_cwS 3 hts g_T_commonOfSides_54 rfl rfl rfl k_T_side.2 ⟨show 0 + 1 ≤ 1 by omega, show 8 + (3 + 11) + 0 ≤ 22 by omega⟩) (zz_blind_st t) hK (hP.sub (ws' := []) [] rfl) (fun U hU hW => zz_st_use hX hS hU hW (fun _ h => h.elim)) rfl hl.1 rfl (Nat.le_of_ble_eq_true rfl) d_T_commonOfSides_27 ⟨Nat.zero_le _, Nat.zero_le _⟩ ?_
  refine zz_iald hx hb hK hP 1 0 rfl rfl (j := g - (2 - 1) * 3 ^ (zz_ntz 8 fr)) (by omega) (by omega) d_T_commonOfSides_30 ?_
  refine zz_top (y := zz_o (cm (g - (2 - 1) * 3 ^ (zz_ntz 8 fr)))) rfl ?_
  refine lv_icmp_ne (tgt := 39) hx hb d_T_commonOfSides_31 (by decide) (fun c31 => ?_) (fun c31 => ?_)
  · rw [zz_o_inj (by omega) (by omega)] at c31
    refine lv_iconst (v := -1) hx hb d_T_commonOfSides_39 (by decide) ?_
    exact W.iret (v := -1) hx hb hr (fun t ht _ => zz_rd (by unfold zT_cs; rw [if_neg c31]; rfl) ht) (fun _ h => by cases h) d_T_commonOfSides_40
  · rw [zz_o_inj (by omega) (by omega)] at c31
    refine lv_iload hx hb d_T_commonOfSides_34 (lv_at hl 0 rfl) ?_
    refine lv_goto (tgt := 40) hx hb d_T_commonOfSides_36 (by decide) ?_
    exact W.iret (v := zz_o (cm (g - (2 - 0) * 3 ^ (zz_ntz 8 fr)))) hx hb hr (fun t ht _ => zz_rd (by unfold zT_cs; rw [if_pos c31]) ht) (fun _ h => by cases h) d_T_commonOfSides_40

set_option maxHeartbeats 4000000 in
set_option maxRecDepth 100000 in
theorem c_T_weigh (l : Launch) (D : va_G) (cA : ClassId) (t : Nat) (aT : Nat) (aTc : Nat) (aTw : Nat) (aTt : Nat) (bw : Nat) (G : Nat) (cm : Nat → Nat) (wo : Nat → Nat) (to : Nat → Nat) (cur : Bool) (g : Nat) (fr : Nat) (sz : Nat) (hG : G ≤ 6561) (hW : bw ≤ 8) (hg : g < G) (hfr : fr < 256) (hcm : ∀ j, cm j ≤ 16384) (hwo : ∀ j, wo j < 2097152) (hto : ∀ j, to j < 2097152) (hsd : ∀ b, b < bw → fr / 2 ^ b &&& 1 = 1 → (2 - 0) * 3 ^ b ≤ g) : Met l y_T_weigh ws_T_weigh ({ frames := 1, cells := 0, slots := 0, locals := 22 }) (va_Pc [.ref aT, .int (nI g), .int (nI fr)] (zz_preW D vwCl [(cA, .int)] [(aT, .inr (3, [.int (nI bw), .int (nI G), .ref aTc, .ref aTw, .ref aTt, .int (nI (zz_b cur))])), (aTc, .inl (cA, G, .inl (fun j => zz_o (cm j)))), (aTw, .inl (cA, G, .inl (fun j => nI (wo j)))), (aTt, .inl (cA, G, .inl (fun j => nI (to j))))] sz (zz_st t))) (va_Qv (fun _ : Unit => True) (fun _ => zz_post D vwCl [(cA, .int)] (va_A [(aT, .inr (3, [.int (nI bw), .int (nI G), .ref aTc, .ref aTw, .ref aTt, .int (nI (zz_b cur))])), (aTc, .inl (cA, G, .inl (fun j => zz_o (cm j)))), (aTw, .inl (cA, G, .inl (fun j => nI (wo j)))), (aTt, .inl (cA, G, .inl (fun j => nI (to j))))] sz) [(aT, .inr (3, [.int (nI bw), .int (nI G), .ref aTc, .ref aTw, .ref aTt, .int (nI (zz_b cur))])), (aTc, .inl (cA, G, .inl (fun j => zz_o (cm j)))), (aTw, .inl (cA, G, .inl (fun j => nI (((zT_weigh bw cm wo to g fr).1) j)))), (aTt, .inl (cA, G, .inl (fun j => nI (((zT_weigh bw cm wo to g fr).2) j))))]) (va_A [(aT, .inr (3, [.int (nI bw), .int (nI G), .ref aTc, .ref aTw, .ref aTt, .int (nI (zz_b cur))])), (aTc, .inl (cA, G, .inl (fun j => zz_o (cm j)))), (aTw, .inl (cA, G, .inl (fun j => nI (wo j)))), (aTt, .inl (cA, G, .inl (fun j => nI (to j))))] sz)) 0 0 (va_A [(aT, .inr (3, [.int (nI bw), .int (nI G), .ref aTc, .ref aTw, .ref aTt, .int (nI (zz_b cur))])), (aTc, .inl (cA, G, .inl (fun j => zz_o (cm j)))), (aTw, .inl (cA, G, .inl (fun j => nI (wo j)))), (aTt, .inl (cA, G, .inl (fun j => nI (to j))))] sz) := by
  refine Met.ofW (cc := b_T_weigh) (maxL := 10) (ret := none) (by decide) rfl ?_
  intro p e s m args below meth c s₁ B hml hv
  obtain ⟨rfl, hsz, hP, hK, hD0, hX⟩ := hv
  have hx := B.exec
  have hb := B.bytes
  have hr := B.returns
  have hts := atoms_spec (ws := ws_T_weigh) B.pre
  have hown : s.vm.findClass "DecodeTests$Tables" = some m.cls := findClass_of_methodNamed B.named
  have hlocks := B.notSynchronized
  have hT : ∀ w9 ∈ zz_T, w9.before ([.ref aT, .int (nI g), .int (nI fr)] : List Value).toArray s = true := fun w9 h => hts w9 (List.mem_cons_of_mem _ h)
  subst hsz
  have hD := hD0.self (sz := s.heap.size)
  generalize hAe : va_A [(aT, .inr (3, [.int (nI bw), .int (nI G), .ref aTc, .ref aTw, .ref aTt, .int (nI (zz_b cur))])), (aTc, .inl (cA, G, .inl (fun j => zz_o (cm j)))), (aTw, .inl (cA, G, .inl (fun j => nI (wo j)))), (aTt, .inl (cA, G, .inl (fun j => nI (to j))))] s.heap.size = A at hD hX ⊢
  have hA : ∀ q : Nat, s.heap.size ≤ q → A q := fun q h => by rw [← hAe]; exact Or.inr h
  have hS : va_S A s.heap s.heap [] := va_S.rf
  have hl := lv_entry ([.ref aT, .int (nI g), .int (nI fr)]) (n := 10) (Nat.le_of_ble_eq_true rfl)
  rw [lg_entry_eq]
  generalize (lg_sl ([.ref aT, .int (nI g), .int (nI fr)]) ++ List.replicate (10 - (lg_sl ([.ref aT, .int (nI g), .int (nI fr)])).length) Slot.unset).toArray = ls at hl ⊢
  have hl : lv_has ls 10 [(0, .ref aT), (1, .int (nI g)), (2, .int (nI fr))] := hl
  have b1 := hcm g
  have hwo1 : ∀ j, zz_up wo g 0 j < 2097152 := zz_up_lt hwo (by decide)
  have hto1 : ∀ j, zz_up to g 0 j < 2097152 := zz_up_lt hto (by decide)
  refine lv_aload_n hx hb d_T_weigh_0 rfl (lv_at hl 0 rfl) ?_
  refine va_get (D := D) (ci := 3) (v := .ref aTw) (C := "DecodeTests$Tables") (T := F_T) (N := 6) hx hb hT hin_T hown hK hP 0 rfl rfl 3 (by decide) (hT _ q_f_T_25) (fun _ h9 => h9) rfl d_T_weigh_1 ?_
  refine lv_iload_n hx hb d_T_weigh_4 rfl (lv_at hl 1 rfl) ?_
  refine lv_iconst (v := nI 0) hx hb d_T_weigh_5 (by decide) ?_
  refine zz_iastN hx hb hK hP hD hS 2 0 rfl rfl (j := g) (by omega) (by omega) d_T_weigh_6 (fun H locs hP hD hS => ?_)
  have hP : va_P D vwCl [(aT, .inr (3, [.int (nI bw), .int (nI G), .ref aTc, .ref aTw, .ref aTt, .int (nI (zz_b cur))])), (aTc, .inl (cA, G, .inl (fun j => zz_o (cm j)))), (aTw, .inl (cA, G, .inl (fun j => nI ((zz_up wo g 0) j)))), (aTt, .inl (cA, G, .inl (fun j => nI (to j))))] H := hP
  have hD : va_D A [(aT, .inr (3, [.int (nI bw), .int (nI G), .ref aTc, .ref aTw, .ref aTt, .int (nI (zz_b cur))])), (aTc, .inl (cA, G, .inl (fun j => zz_o (cm j)))), (aTw, .inl (cA, G, .inl (fun j => nI ((zz_up wo g 0) j)))), (aTt, .inl (cA, G, .inl (fun j => nI (to j))))] := hD
  refine lv_aload_n hx hb d_T_weigh_7 rfl (lv_at hl 0 rfl) ?_
  refine va_get (D := D) (ci := 3) (v := .ref aTt) (C := "DecodeTests$Tables") (T := F_T) (N := 6) hx hb hT hin_T hown hK hP 0 rfl rfl 4 (by decide) (hT _ q_f_T_28) (fun _ h9 => h9) rfl d_T_weigh_8 ?_
  refine lv_iload_n hx hb d_T_weigh_11 rfl (lv_at hl 1 rfl) ?_
  refine lv_iconst (v := nI 0) hx hb d_T_weigh_12 (by decide) ?_
  refine zz_iastN hx hb hK hP hD hS 3 0 rfl rfl (j := g) (by omega) (by omega) d_T_weigh_13 (fun H locs hP hD hS => ?_)
  have hP : va_P D vwCl [(aT, .inr (3, [.int (nI bw), .int (nI G), .ref aTc, .ref aTw, .ref aTt, .int (nI (zz_b cur))])), (aTc, .inl (cA, G, .inl (fun j => zz_o (cm j)))), (aTw, .inl (cA, G, .inl (fun j => nI ((zz_up wo g 0) j)))), (aTt, .inl (cA, G, .inl (fun j => nI ((zz_up to g 0) j))))] H := hP
  have hD : va_D A [(aT, .inr (3, [.int (nI bw), .int (nI G), .ref aTc, .ref aTw, .ref aTt, .int (nI (zz_b cur))])), (aTc, .inl (cA, G, .inl (fun j => zz_o (cm j)))), (aTw, .inl (cA, G, .inl (fun j => nI ((zz_up wo g 0) j)))), (aTt, .inl (cA, G, .inl (fun j => nI ((zz_up to g 0) j))))] := hD
  refine lv_aload_n hx hb d_T_weigh_14 rfl (lv_at hl 0 rfl) ?_
  refine va_get (D := D) (ci := 3) (v := .ref aTc) (C := "DecodeTests$Tables") (T := F_T) (N := 6) hx hb hT hin_T hown hK hP 0 rfl rfl 2 (by decide) (hT _ q_f_T_22) (fun _ h9 => h9) rfl d_T_weigh_15 ?_
  refine lv_iload_n hx hb d_T_weigh_18 rfl (lv_at hl 1 rfl) ?_
  refine zz_iald hx hb hK hP 1 0 rfl rfl (j := g) (by omega) (by omega) d_T_weigh_19 ?_
  refine zz_top (y := zz_o (cm g)) rfl ?_
  refine lv_iconst (v := -1) hx hb d_T_weigh_20 (by decide) ?_
  refine lv_icmp_eq (tgt := 25) hx hb d_T_weigh_21 (by decide) (fun c21 => ?_) (fun c21 => ?_)
  · rw [zz_o_none (by omega)] at c21
    refine lv_ldc (v := nI 1048576) hx hb hown (hT _ q_k_T_58) d_T_weigh_25 ?_
    refine lv_istore_n (lv' := [(3, .int (nI 1048576)), (0, .ref aT), (1, .int (nI g)), (2, .int (nI fr))]) hx hb d_T_weigh_27 rfl hl (by decide) rfl (fun ls hl => ?_)
    refine lv_ldc (v := nI 1048576) hx hb hown (hT _ q_k_T_58) d_T_weigh_28 ?_
    refine lv_istore (lv' := [(4, .int (nI 1048576)), (3, .int (nI 1048576)), (0, .ref aT), (1, .int (nI g)), (2, .int (nI fr))]) hx hb d_T_weigh_30 hl (by decide) rfl (fun ls hl => ?_)
    refine lv_iconst (v := nI 0) hx hb d_T_weigh_32 (by decide) ?_
    refine lv_istore (lv' := [(5, .int (nI 0)), (4, .int (nI 1048576)), (3, .int (nI 1048576)), (0, .ref aT), (1, .int (nI g)), (2, .int (nI fr))]) hx hb d_T_weigh_33 hl (by decide) rfl (fun ls hl => ?_)
    have lp : ∀ (fu : Nat) (b : Nat) (lw : Nat) (lt : Nat), (b ≤ bw) → (lw ≤ 1048576) → (lt ≤ 1048576) → (zT_least (zz_up wo g 0) (zz_up to g 0) g fr b (bw - b) (lw, lt) = zT_least (zz_up wo g 0) (zz_up to g 0) g fr 0 bw (1048576, 1048576)) → bw - b < fu → ∀ (ls : Array Slot), lv_has ls 10 [(0, .ref aT), (1, .int (nI g)), (2, .int (nI fr)), (3, .int (nI lw)), (4, .int (nI lt)), (5, .int (nI b))] → W p l e (headSpec ws_T_weigh ({ frames := 1, cells := 0, slots := 0, locals := 22 })).room s m ([.ref aT, .int (nI g), .int (nI fr)] : List Value).toArray below meth c H locs 0 0 (MQ below (va_Qv (fun _ : Unit => True) (fun _ => zz_post D vwCl [(cA, .int)] A [(aT, .inr (3, [.int (nI bw), .int (nI G), .ref aTc, .ref aTw, .ref aTt, .int (nI (zz_b cur))])), (aTc, .inl (cA, G, .inl (fun j => zz_o (cm j)))), (aTw, .inl (cA, G, .inl (fun j => nI (((zT_weigh bw cm wo to g fr).1) j)))), (aTt, .inl (cA, G, .inl (fun j => nI (((zT_weigh bw cm wo to g fr).2) j))))]) A) ([.ref aT, .int (nI g), .int (nI fr)] : List Value).toArray s 0 0 A) (F0 m 35 ls []) := by
      intro fu
      induction fu with
      | zero => intro b lw lt hbb hlw hlt hinv hmu; exact absurd hmu (Nat.not_lt_zero _)
      | succ fu ih_lp =>
        intro b lw lt hbb hlw hlt hinv hmu ls hl
        refine lv_iload hx hb d_T_weigh_35 (lv_at hl 5 rfl) ?_
        refine lv_aload_n hx hb d_T_weigh_37 rfl (lv_at hl 0 rfl) ?_
        refine va_get (D := D) (ci := 3) (v := .int (nI bw)) (C := "DecodeTests$Tables") (T := F_T) (N := 6) hx hb hT hin_T hown hK hP 0 rfl rfl 0 (by decide) (hT _ q_f_T_9) (fun _ h9 => h9) rfl d_T_weigh_38 ?_
        refine lv_icmp_ge (tgt := 148) hx hb d_T_weigh_41 (by decide) (fun c41 => ?_) (fun c41 => ?_)
        · rw [zz_le (by omega) (by omega)] at c41
          have hbW : b = bw := by omega
          have hbc := zz_bc8 fr hfr
          have hp := zz_2le (a := 1) hbc
          rw [zT_least_end (by omega)] at hinv
          refine lv_iconst (v := nI 1) hx hb d_T_weigh_148 (by decide) ?_
          refine lv_iload_n hx hb d_T_weigh_149 rfl (lv_at hl 2 rfl) ?_
          refine zz_rS (As := [.int (nI fr)]) (rest := [.int (nI 1)]) (r := nI (zz_bc 14 fr)) ⟨hx, hb, hml, hown, hts⟩ (c_JI_bitCount l _ _ fr (by omega)) (va_cwS 1 hts g_T_weigh_67 rfl rfl rfl k_JI_bitCount.2 ⟨show 0 + 1 ≤ 1 by omega, show 8 + (1 + 11) + 0 ≤ 22 by omega⟩) (zz_blind_nx) hK (hP.sub (ws' := []) [] rfl) (fun _ _ _ => trivial) rfl hl.1 rfl (Nat.le_of_ble_eq_true rfl) d_T_weigh_150 ⟨Nat.zero_le _, Nat.zero_le _⟩ ?_
          refine lv_ishl hx hb d_T_weigh_153 ?_
          refine zz_top (y := nI (1 * 2 ^ (zz_bc 14 fr))) (zz_shl (by omega) (by omega)) ?_
          refine lv_istore (lv' := [(5, .int (nI (1 * 2 ^ (zz_bc 14 fr)))), (0, .ref aT), (1, .int (nI g)), (2, .int (nI fr)), (3, .int (nI lw)), (4, .int (nI lt))]) hx hb d_T_weigh_154 hl (by decide) rfl (fun ls hl => ?_)
          refine lv_aload_n hx hb d_T_weigh_156 rfl (lv_at hl 1 rfl) ?_
          refine va_get (D := D) (ci := 3) (v := .ref aTw) (C := "DecodeTests$Tables") (T := F_T) (N := 6) hx hb hT hin_T hown hK hP 0 rfl rfl 3 (by decide) (hT _ q_f_T_25) (fun _ h9 => h9) rfl d_T_weigh_157 ?_
          refine lv_iload_n hx hb d_T_weigh_160 rfl (lv_at hl 2 rfl) ?_
          refine lv_iload_n hx hb d_T_weigh_161 rfl (lv_at hl 4 rfl) ?_
          refine lv_bipush (v := nI 8) hx hb d_T_weigh_162 (by decide) ?_
          refine lv_iadd hx hb d_T_weigh_164 ?_
          refine zz_top (y := nI (lw + 8)) (nI_add lw 8) ?_
          refine zz_iastN hx hb hK hP hD hS 2 0 rfl rfl (j := g) (by omega) (by omega) d_T_weigh_165 (fun H locs hP hD hS => ?_)
          have hP : va_P D vwCl [(aT, .inr (3, [.int (nI bw), .int (nI G), .ref aTc, .ref aTw, .ref aTt, .int (nI (zz_b cur))])), (aTc, .inl (cA, G, .inl (fun j => zz_o (cm j)))), (aTw, .inl (cA, G, .inl (fun j => nI ((zz_up (zz_up wo g 0) g (lw + 8)) j)))), (aTt, .inl (cA, G, .inl (fun j => nI ((zz_up to g 0) j))))] H := hP
          have hD : va_D A [(aT, .inr (3, [.int (nI bw), .int (nI G), .ref aTc, .ref aTw, .ref aTt, .int (nI (zz_b cur))])), (aTc, .inl (cA, G, .inl (fun j => zz_o (cm j)))), (aTw, .inl (cA, G, .inl (fun j => nI ((zz_up (zz_up wo g 0) g (lw + 8)) j)))), (aTt, .inl (cA, G, .inl (fun j => nI ((zz_up to g 0) j))))] := hD
          refine lv_aload_n hx hb d_T_weigh_166 rfl (lv_at hl 1 rfl) ?_
          refine va_get (D := D) (ci := 3) (v := .ref aTt) (C := "DecodeTests$Tables") (T := F_T) (N := 6) hx hb hT hin_T hown hK hP 0 rfl rfl 4 (by decide) (hT _ q_f_T_28) (fun _ h9 => h9) rfl d_T_weigh_167 ?_
          refine lv_iload_n hx hb d_T_weigh_170 rfl (lv_at hl 2 rfl) ?_
          refine lv_iload hx hb d_T_weigh_171 (lv_at hl 5 rfl) ?_
          refine lv_iload hx hb d_T_weigh_173 (lv_at hl 0 rfl) ?_
          refine lv_iconst (v := nI 3) hx hb d_T_weigh_175 (by decide) ?_
          refine lv_ishl hx hb d_T_weigh_176 ?_
          refine zz_top (y := nI ((1 * 2 ^ (zz_bc 14 fr)) * 2 ^ 3)) (zz_shl (by omega) (by omega)) ?_
          refine lv_iadd hx hb d_T_weigh_177 ?_
          refine zz_top (y := nI (lt + (1 * 2 ^ (zz_bc 14 fr)) * 2 ^ 3)) (nI_add lt ((1 * 2 ^ (zz_bc 14 fr)) * 2 ^ 3)) ?_
          refine zz_iastN hx hb hK hP hD hS 3 0 rfl rfl (j := g) (by omega) (by omega) d_T_weigh_178 (fun H locs hP hD hS => ?_)
          have hP : va_P D vwCl [(aT, .inr (3, [.int (nI bw), .int (nI G), .ref aTc, .ref aTw, .ref aTt, .int (nI (zz_b cur))])), (aTc, .inl (cA, G, .inl (fun j => zz_o (cm j)))), (aTw, .inl (cA, G, .inl (fun j => nI ((zz_up (zz_up wo g 0) g (lw + 8)) j)))), (aTt, .inl (cA, G, .inl (fun j => nI ((zz_up (zz_up to g 0) g (lt + (1 * 2 ^ (zz_bc 14 fr)) * 2 ^ 3)) j))))] H := hP
          have hD : va_D A [(aT, .inr (3, [.int (nI bw), .int (nI G), .ref aTc, .ref aTw, .ref aTt, .int (nI (zz_b cur))])), (aTc, .inl (cA, G, .inl (fun j => zz_o (cm j)))), (aTw, .inl (cA, G, .inl (fun j => nI ((zz_up (zz_up wo g 0) g (lw + 8)) j)))), (aTt, .inl (cA, G, .inl (fun j => nI ((zz_up (zz_up to g 0) g (lt + (1 * 2 ^ (zz_bc 14 fr)) * 2 ^ 3)) j))))] := hD
          have hP : va_P D vwCl [(aT, .inr (3, [.int (nI bw), .int (nI G), .ref aTc, .ref aTw, .ref aTt, .int (nI (zz_b cur))])), (aTc, .inl (cA, G, .inl (fun j => zz_o (cm j)))), (aTw, .inl (cA, G, .inl (fun j => nI (((zT_weigh bw cm wo to g fr).1) j)))), (aTt, .inl (cA, G, .inl (fun j => nI (((zT_weigh bw cm wo to g fr).2) j))))] H := by rw [show zT_weigh bw cm wo to g fr = _ from if_pos c21, ← hinv]; exact hP
          have hD : va_D A [(aT, .inr (3, [.int (nI bw), .int (nI G), .ref aTc, .ref aTw, .ref aTt, .int (nI (zz_b cur))])), (aTc, .inl (cA, G, .inl (fun j => zz_o (cm j)))), (aTw, .inl (cA, G, .inl (fun j => nI (((zT_weigh bw cm wo to g fr).1) j)))), (aTt, .inl (cA, G, .inl (fun j => nI (((zT_weigh bw cm wo to g fr).2) j))))] := by rw [show zT_weigh bw cm wo to g fr = _ from if_pos c21, ← hinv]; exact hD
          exact W.vret hx hb hr (fun t ht hW => ⟨⟨(), rfl, trivial, by rw [ht]; exact hP, va_K.moved hW.alike hK, hD⟩, hS.F ht⟩) hS.2.2 d_T_weigh_179
        · rw [zz_le (by omega) (by omega)] at c41
          have q1 : fr / 2 ^ b &&& 1 < 256 := zz_and_lt (by decide)
          refine lv_iload_n hx hb d_T_weigh_44 rfl (lv_at hl 2 rfl) ?_
          refine lv_iload hx hb d_T_weigh_45 (lv_at hl 5 rfl) ?_
          refine lv_ishr hx hb d_T_weigh_47 ?_
          refine zz_top (y := nI (fr / 2 ^ b)) (zz_shr (by omega) (by omega)) ?_
          refine lv_iconst (v := nI 1) hx hb d_T_weigh_48 (by decide) ?_
          refine lv_iand hx hb d_T_weigh_49 ?_
          refine zz_top (y := nI ((fr / 2 ^ b) &&& 1)) (zz_and (fr / 2 ^ b) 1) ?_
          refine lv_iconst (v := nI 1) hx hb d_T_weigh_50 (by decide) ?_
          refine lv_icmp_ne (tgt := 142) hx hb d_T_weigh_51 (by decide) (fun c51 => ?_) (fun c51 => ?_)
          · rw [zz_eq (by omega) (by omega)] at c51
            refine lv_iinc (v := nI (b + 1)) (lv' := [(5, .int (nI (b + 1))), (0, .ref aT), (1, .int (nI g)), (2, .int (nI fr)), (3, .int (nI lw)), (4, .int (nI lt))]) hx hb d_T_weigh_142 hl (k := 5) rfl (nI_add b 1) (by decide) rfl (fun ls hl => ?_)
            refine lv_goto (tgt := 35) hx hb d_T_weigh_145 (by decide) ?_
            exact ih_lp (b + 1) lw lt (by omega) (by omega) (by omega) (by rw [← hinv, zT_least_out (by omega) c51]) (by omega) ls (lv_sub hl [1, 2, 3, 4, 5, 0] rfl)
          · rw [zz_eq (by omega) (by omega)] at c51
            have hs0 := hsd b (by omega) c51
            have hs1 : (2 - 1) * 3 ^ b ≤ g := by omega
            have w0 := hwo1 (g - (2 - 0) * 3 ^ b)
            have w1 := hwo1 (g - (2 - 1) * 3 ^ b)
            have t0 := hto1 (g - (2 - 0) * 3 ^ b)
            have t1 := hto1 (g - (2 - 1) * 3 ^ b)
            refine lv_iload_n hx hb d_T_weigh_54 rfl (lv_at hl 1 rfl) ?_
            refine lv_iload hx hb d_T_weigh_55 (lv_at hl 5 rfl) ?_
            refine lv_iconst (v := nI 0) hx hb d_T_weigh_57 (by decide) ?_
            refine zz_rS (As := [.int (nI g), .int (nI b), .int (nI 0)]) (rest := []) (r := nI (g - (2 - 0) * 3 ^ b)) ⟨hx, hb, hml, hown, hts⟩ (c_T_side l _ _ _ g b 0 (by omega) (by omega) (by omega)) (va_cwS 3 hts g_T_weigh_54 rfl rfl rfl k_T_side.2 ⟨show 0 + 1 ≤ 1 by omega, show 8 + (3 + 11) + 0 ≤ 22 by omega⟩) (zz_blind_st t) hK (hP.sub (ws' := []) [] rfl) (fun U hU hW => zz_st_use hX hS hU hW (fun _ h => h.elim)) rfl hl.1 rfl (Nat.le_of_ble_eq_true rfl) d_T_weigh_58 ⟨Nat.zero_le _, Nat.zero_le _⟩ ?_
            refine lv_istore (lv' := [(6, .int (nI (g - (2 - 0) * 3 ^ b))), (0, .ref aT), (1, .int (nI g)), (2, .int (nI fr)), (3, .int (nI lw)), (4, .int (nI lt)), (5, .int (nI b))]) hx hb d_T_weigh_61 hl (by decide) rfl (fun ls hl => ?_)
            refine lv_iload_n hx hb d_T_weigh_63 rfl (lv_at hl 2 rfl) ?_
            refine lv_iload hx hb d_T_weigh_64 (lv_at hl 6 rfl) ?_
            refine lv_iconst (v := nI 1) hx hb d_T_weigh_66 (by decide) ?_
            refine zz_rS (As := [.int (nI g), .int (nI b), .int (nI 1)]) (rest := []) (r := nI (g - (2 - 1) * 3 ^ b)) ⟨hx, hb, hml, hown, hts⟩ (c_T_side l _ _ _ g b 1 (by omega) (by omega) (by omega)) (va_cwS 3 hts g_T_weigh_54 rfl rfl rfl k_T_side.2 ⟨show 0 + 1 ≤ 1 by omega, show 8 + (3 + 11) + 0 ≤ 22 by omega⟩) (zz_blind_st t) hK (hP.sub (ws' := []) [] rfl) (fun U hU hW => zz_st_use hX hS hU hW (fun _ h => h.elim)) rfl hl.1 rfl (Nat.le_of_ble_eq_true rfl) d_T_weigh_67 ⟨Nat.zero_le _, Nat.zero_le _⟩ ?_
            refine lv_istore (lv' := [(7, .int (nI (g - (2 - 1) * 3 ^ b))), (6, .int (nI (g - (2 - 0) * 3 ^ b))), (0, .ref aT), (1, .int (nI g)), (2, .int (nI fr)), (3, .int (nI lw)), (4, .int (nI lt)), (5, .int (nI b))]) hx hb d_T_weigh_70 hl (by decide) rfl (fun ls hl => ?_)
            refine lv_aload_n hx hb d_T_weigh_72 rfl (lv_at hl 2 rfl) ?_
            refine va_get (D := D) (ci := 3) (v := .ref aTw) (C := "DecodeTests$Tables") (T := F_T) (N := 6) hx hb hT hin_T hown hK hP 0 rfl rfl 3 (by decide) (hT _ q_f_T_25) (fun _ h9 => h9) rfl d_T_weigh_73 ?_
            refine lv_iload hx hb d_T_weigh_76 (lv_at hl 1 rfl) ?_
            refine zz_iald hx hb hK hP 2 0 rfl rfl (j := g - (2 - 0) * 3 ^ b) (by omega) (by omega) d_T_weigh_78 ?_
            refine zz_top (y := nI ((zz_up wo g 0) (g - (2 - 0) * 3 ^ b))) rfl ?_
            refine lv_iconst (v := nI 3) hx hb d_T_weigh_79 (by decide) ?_
            refine lv_ishr hx hb d_T_weigh_80 ?_
            refine zz_top (y := nI (((zz_up wo g 0) (g - (2 - 0) * 3 ^ b)) / 2 ^ 3)) (zz_shr (by omega) (by omega)) ?_
            refine lv_aload_n hx hb d_T_weigh_81 rfl (lv_at hl 2 rfl) ?_
            refine va_get (D := D) (ci := 3) (v := .ref aTw) (C := "DecodeTests$Tables") (T := F_T) (N := 6) hx hb hT hin_T hown hK hP 0 rfl rfl 3 (by decide) (hT _ q_f_T_25) (fun _ h9 => h9) rfl d_T_weigh_82 ?_
            refine lv_iload hx hb d_T_weigh_85 (lv_at hl 0 rfl) ?_
            refine zz_iald hx hb hK hP 2 0 rfl rfl (j := g - (2 - 1) * 3 ^ b) (by omega) (by omega) d_T_weigh_87 ?_
            refine zz_top (y := nI ((zz_up wo g 0) (g - (2 - 1) * 3 ^ b))) rfl ?_
            refine lv_iconst (v := nI 3) hx hb d_T_weigh_88 (by decide) ?_
            refine lv_ishr hx hb d_T_weigh_89 ?_
            refine zz_top (y := nI (((zz_up wo g 0) (g - (2 - 1) * 3 ^ b)) / 2 ^ 3)) (zz_shr (by omega) (by omega)) ?_
            refine zz_rS (As := [.int (nI (((zz_up wo g 0) (g - (2 - 0) * 3 ^ b)) / 2 ^ 3)), .int (nI (((zz_up wo g 0) (g - (2 - 1) * 3 ^ b)) / 2 ^ 3))]) (rest := []) (r := nI (max (((zz_up wo g 0) (g - (2 - 0) * 3 ^ b)) / 2 ^ 3) (((zz_up wo g 0) (g - (2 - 1) * 3 ^ b)) / 2 ^ 3))) ⟨hx, hb, hml, hown, hts⟩ (c_JM_max l _ _ (((zz_up wo g 0) (g - (2 - 0) * 3 ^ b)) / 2 ^ 3) (((zz_up wo g 0) (g - (2 - 1) * 3 ^ b)) / 2 ^ 3) (by omega) (by omega)) (va_cwS 2 hts g_T_weigh_59 rfl rfl rfl k_JM_max.2 ⟨show 0 + 1 ≤ 1 by omega, show 8 + (2 + 11) + 0 ≤ 22 by omega⟩) (zz_blind_nx) hK (hP.sub (ws' := []) [] rfl) (fun _ _ _ => trivial) rfl hl.1 rfl (Nat.le_of_ble_eq_true rfl) d_T_weigh_90 ⟨Nat.zero_le _, Nat.zero_le _⟩ ?_
            refine lv_istore (lv' := [(8, .int (nI (max (((zz_up wo g 0) (g - (2 - 0) * 3 ^ b)) / 2 ^ 3) (((zz_up wo g 0) (g - (2 - 1) * 3 ^ b)) / 2 ^ 3)))), (7, .int (nI (g - (2 - 1) * 3 ^ b))), (6, .int (nI (g - (2 - 0) * 3 ^ b))), (0, .ref aT), (1, .int (nI g)), (2, .int (nI fr)), (3, .int (nI lw)), (4, .int (nI lt)), (5, .int (nI b))]) hx hb d_T_weigh_93 hl (by decide) rfl (fun ls hl => ?_)
            refine lv_aload_n hx hb d_T_weigh_95 rfl (lv_at hl 3 rfl) ?_
            refine va_get (D := D) (ci := 3) (v := .ref aTt) (C := "DecodeTests$Tables") (T := F_T) (N := 6) hx hb hT hin_T hown hK hP 0 rfl rfl 4 (by decide) (hT _ q_f_T_28) (fun _ h9 => h9) rfl d_T_weigh_96 ?_
            refine lv_iload hx hb d_T_weigh_99 (lv_at hl 2 rfl) ?_
            refine zz_iald hx hb hK hP 3 0 rfl rfl (j := g - (2 - 0) * 3 ^ b) (by omega) (by omega) d_T_weigh_101 ?_
            refine zz_top (y := nI ((zz_up to g 0) (g - (2 - 0) * 3 ^ b))) rfl ?_
            refine lv_iconst (v := nI 3) hx hb d_T_weigh_102 (by decide) ?_
            refine lv_ishr hx hb d_T_weigh_103 ?_
            refine zz_top (y := nI (((zz_up to g 0) (g - (2 - 0) * 3 ^ b)) / 2 ^ 3)) (zz_shr (by omega) (by omega)) ?_
            refine lv_aload_n hx hb d_T_weigh_104 rfl (lv_at hl 3 rfl) ?_
            refine va_get (D := D) (ci := 3) (v := .ref aTt) (C := "DecodeTests$Tables") (T := F_T) (N := 6) hx hb hT hin_T hown hK hP 0 rfl rfl 4 (by decide) (hT _ q_f_T_28) (fun _ h9 => h9) rfl d_T_weigh_105 ?_
            refine lv_iload hx hb d_T_weigh_108 (lv_at hl 1 rfl) ?_
            refine zz_iald hx hb hK hP 3 0 rfl rfl (j := g - (2 - 1) * 3 ^ b) (by omega) (by omega) d_T_weigh_110 ?_
            refine zz_top (y := nI ((zz_up to g 0) (g - (2 - 1) * 3 ^ b))) rfl ?_
            refine lv_iconst (v := nI 3) hx hb d_T_weigh_111 (by decide) ?_
            refine lv_ishr hx hb d_T_weigh_112 ?_
            refine zz_top (y := nI (((zz_up to g 0) (g - (2 - 1) * 3 ^ b)) / 2 ^ 3)) (zz_shr (by omega) (by omega)) ?_
            refine lv_iadd hx hb d_T_weigh_113 ?_
            refine zz_top (y := nI ((((zz_up to g 0) (g - (2 - 0) * 3 ^ b)) / 2 ^ 3) + (((zz_up to g 0) (g - (2 - 1) * 3 ^ b)) / 2 ^ 3))) (nI_add (((zz_up to g 0) (g - (2 - 0) * 3 ^ b)) / 2 ^ 3) (((zz_up to g 0) (g - (2 - 1) * 3 ^ b)) / 2 ^ 3)) ?_
            refine lv_istore (lv' := [(9, .int (nI ((((zz_up to g 0) (g - (2 - 0) * 3 ^ b)) / 2 ^ 3) + (((zz_up to g 0) (g - (2 - 1) * 3 ^ b)) / 2 ^ 3)))), (8, .int (nI (max (((zz_up wo g 0) (g - (2 - 0) * 3 ^ b)) / 2 ^ 3) (((zz_up wo g 0) (g - (2 - 1) * 3 ^ b)) / 2 ^ 3)))), (7, .int (nI (g - (2 - 1) * 3 ^ b))), (6, .int (nI (g - (2 - 0) * 3 ^ b))), (0, .ref aT), (1, .int (nI g)), (2, .int (nI fr)), (3, .int (nI lw)), (4, .int (nI lt)), (5, .int (nI b))]) hx hb d_T_weigh_114 hl (by decide) rfl (fun ls hl => ?_)
            refine lv_iload_n hx hb d_T_weigh_116 rfl (lv_at hl 7 rfl) ?_
            refine lv_iload hx hb d_T_weigh_117 (lv_at hl 1 rfl) ?_
            refine lv_iconst (v := nI 3) hx hb d_T_weigh_119 (by decide) ?_
            refine lv_ishl hx hb d_T_weigh_120 ?_
            refine zz_top (y := nI ((max (((zz_up wo g 0) (g - (2 - 0) * 3 ^ b)) / 2 ^ 3) (((zz_up wo g 0) (g - (2 - 1) * 3 ^ b)) / 2 ^ 3)) * 2 ^ 3)) (zz_shl (by omega) (by omega)) ?_
            refine lv_iload hx hb d_T_weigh_121 (lv_at hl 9 rfl) ?_
            refine lv_ior hx hb d_T_weigh_123 ?_
            refine zz_top (y := nI ((max (((zz_up wo g 0) (g - (2 - 0) * 3 ^ b)) / 2 ^ 3) (((zz_up wo g 0) (g - (2 - 1) * 3 ^ b)) / 2 ^ 3)) * 2 ^ 3 + b)) (zz_ior8 (by omega)) ?_
            refine zz_rS (As := [.int (nI lw), .int (nI ((max (((zz_up wo g 0) (g - (2 - 0) * 3 ^ b)) / 2 ^ 3) (((zz_up wo g 0) (g - (2 - 1) * 3 ^ b)) / 2 ^ 3)) * 2 ^ 3 + b))]) (rest := []) (r := nI (min lw ((max (((zz_up wo g 0) (g - (2 - 0) * 3 ^ b)) / 2 ^ 3) (((zz_up wo g 0) (g - (2 - 1) * 3 ^ b)) / 2 ^ 3)) * 2 ^ 3 + b))) ⟨hx, hb, hml, hown, hts⟩ (c_JM_min l _ _ lw ((max (((zz_up wo g 0) (g - (2 - 0) * 3 ^ b)) / 2 ^ 3) (((zz_up wo g 0) (g - (2 - 1) * 3 ^ b)) / 2 ^ 3)) * 2 ^ 3 + b) (by omega) (by omega)) (va_cwS 2 hts g_T_weigh_64 rfl rfl rfl k_JM_min.2 ⟨show 0 + 1 ≤ 1 by omega, show 8 + (2 + 11) + 0 ≤ 22 by omega⟩) (zz_blind_nx) hK (hP.sub (ws' := []) [] rfl) (fun _ _ _ => trivial) rfl hl.1 rfl (Nat.le_of_ble_eq_true rfl) d_T_weigh_124 ⟨Nat.zero_le _, Nat.zero_le _⟩ ?_
            refine lv_istore_n (lv' := [(3, .int (nI (min lw ((max (((zz_up wo g 0) (g - (2 - 0) * 3 ^ b)) / 2 ^ 3) (((zz_up wo g 0) (g - (2 - 1) * 3 ^ b)) / 2 ^ 3)) * 2 ^ 3 + b)))), (9, .int (nI ((((zz_up to g 0) (g - (2 - 0) * 3 ^ b)) / 2 ^ 3) + (((zz_up to g 0) (g - (2 - 1) * 3 ^ b)) / 2 ^ 3)))), (8, .int (nI (max (((zz_up wo g 0) (g - (2 - 0) * 3 ^ b)) / 2 ^ 3) (((zz_up wo g 0) (g - (2 - 1) * 3 ^ b)) / 2 ^ 3)))), (7, .int (nI (g - (2 - 1) * 3 ^ b))), (6, .int (nI (g - (2 - 0) * 3 ^ b))), (0, .ref aT), (1, .int (nI g)), (2, .int (nI fr)), (4, .int (nI lt)), (5, .int (nI b))]) hx hb d_T_weigh_127 rfl hl (by decide) rfl (fun ls hl => ?_)
            refine lv_iload hx hb d_T_weigh_128 (lv_at hl 8 rfl) ?_
            refine lv_iload hx hb d_T_weigh_130 (lv_at hl 1 rfl) ?_
            refine lv_iconst (v := nI 3) hx hb d_T_weigh_132 (by decide) ?_
            refine lv_ishl hx hb d_T_weigh_133 ?_
            refine zz_top (y := nI (((((zz_up to g 0) (g - (2 - 0) * 3 ^ b)) / 2 ^ 3) + (((zz_up to g 0) (g - (2 - 1) * 3 ^ b)) / 2 ^ 3)) * 2 ^ 3)) (zz_shl (by omega) (by omega)) ?_
            refine lv_iload hx hb d_T_weigh_134 (lv_at hl 9 rfl) ?_
            refine lv_ior hx hb d_T_weigh_136 ?_
            refine zz_top (y := nI (((((zz_up to g 0) (g - (2 - 0) * 3 ^ b)) / 2 ^ 3) + (((zz_up to g 0) (g - (2 - 1) * 3 ^ b)) / 2 ^ 3)) * 2 ^ 3 + b)) (zz_ior8 (by omega)) ?_
            refine zz_rS (As := [.int (nI lt), .int (nI (((((zz_up to g 0) (g - (2 - 0) * 3 ^ b)) / 2 ^ 3) + (((zz_up to g 0) (g - (2 - 1) * 3 ^ b)) / 2 ^ 3)) * 2 ^ 3 + b))]) (rest := []) (r := nI (min lt (((((zz_up to g 0) (g - (2 - 0) * 3 ^ b)) / 2 ^ 3) + (((zz_up to g 0) (g - (2 - 1) * 3 ^ b)) / 2 ^ 3)) * 2 ^ 3 + b))) ⟨hx, hb, hml, hown, hts⟩ (c_JM_min l _ _ lt (((((zz_up to g 0) (g - (2 - 0) * 3 ^ b)) / 2 ^ 3) + (((zz_up to g 0) (g - (2 - 1) * 3 ^ b)) / 2 ^ 3)) * 2 ^ 3 + b) (by omega) (by omega)) (va_cwS 2 hts g_T_weigh_64 rfl rfl rfl k_JM_min.2 ⟨show 0 + 1 ≤ 1 by omega, show 8 + (2 + 11) + 0 ≤ 22 by omega⟩) (zz_blind_nx) hK (hP.sub (ws' := []) [] rfl) (fun _ _ _ => trivial) rfl hl.1 rfl (Nat.le_of_ble_eq_true rfl) d_T_weigh_137 ⟨Nat.zero_le _, Nat.zero_le _⟩ ?_
            refine lv_istore (lv' := [(4, .int (nI (min lt (((((zz_up to g 0) (g - (2 - 0) * 3 ^ b)) / 2 ^ 3) + (((zz_up to g 0) (g - (2 - 1) * 3 ^ b)) / 2 ^ 3)) * 2 ^ 3 + b)))), (3, .int (nI (min lw ((max (((zz_up wo g 0) (g - (2 - 0) * 3 ^ b)) / 2 ^ 3) (((zz_up wo g 0) (g - (2 - 1) * 3 ^ b)) / 2 ^ 3)) * 2 ^ 3 + b)))), (9, .int (nI ((((zz_up to g 0) (g - (2 - 0) * 3 ^ b)) / 2 ^ 3) + (((zz_up to g 0) (g - (2 - 1) * 3 ^ b)) / 2 ^ 3)))), (8, .int (nI (max (((zz_up wo g 0) (g - (2 - 0) * 3 ^ b)) / 2 ^ 3) (((zz_up wo g 0) (g - (2 - 1) * 3 ^ b)) / 2 ^ 3)))), (7, .int (nI (g - (2 - 1) * 3 ^ b))), (6, .int (nI (g - (2 - 0) * 3 ^ b))), (0, .ref aT), (1, .int (nI g)), (2, .int (nI fr)), (5, .int (nI b))]) hx hb d_T_weigh_140 hl (by decide) rfl (fun ls hl => ?_)
            refine lv_iinc (v := nI (b + 1)) (lv' := [(5, .int (nI (b + 1))), (4, .int (nI (min lt (((((zz_up to g 0) (g - (2 - 0) * 3 ^ b)) / 2 ^ 3) + (((zz_up to g 0) (g - (2 - 1) * 3 ^ b)) / 2 ^ 3)) * 2 ^ 3 + b)))), (3, .int (nI (min lw ((max (((zz_up wo g 0) (g - (2 - 0) * 3 ^ b)) / 2 ^ 3) (((zz_up wo g 0) (g - (2 - 1) * 3 ^ b)) / 2 ^ 3)) * 2 ^ 3 + b)))), (9, .int (nI ((((zz_up to g 0) (g - (2 - 0) * 3 ^ b)) / 2 ^ 3) + (((zz_up to g 0) (g - (2 - 1) * 3 ^ b)) / 2 ^ 3)))), (8, .int (nI (max (((zz_up wo g 0) (g - (2 - 0) * 3 ^ b)) / 2 ^ 3) (((zz_up wo g 0) (g - (2 - 1) * 3 ^ b)) / 2 ^ 3)))), (7, .int (nI (g - (2 - 1) * 3 ^ b))), (6, .int (nI (g - (2 - 0) * 3 ^ b))), (0, .ref aT), (1, .int (nI g)), (2, .int (nI fr))]) hx hb d_T_weigh_142 hl (k := 9) rfl (nI_add b 1) (by decide) rfl (fun ls hl => ?_)
            refine lv_goto (tgt := 35) hx hb d_T_weigh_145 (by decide) ?_
            exact ih_lp (b + 1) (min lw ((max (((zz_up wo g 0) (g - (2 - 0) * 3 ^ b)) / 2 ^ 3) (((zz_up wo g 0) (g - (2 - 1) * 3 ^ b)) / 2 ^ 3)) * 2 ^ 3 + b)) (min lt (((((zz_up to g 0) (g - (2 - 0) * 3 ^ b)) / 2 ^ 3) + (((zz_up to g 0) (g - (2 - 1) * 3 ^ b)) / 2 ^ 3)) * 2 ^ 3 + b)) (by omega) (by omega) (by omega) (by rw [← hinv, zT_least_in (by omega) c51]) (by omega) ls (lv_sub hl [7, 8, 9, 2, 1, 0] rfl)
    exact lp (bw + 1) 0 1048576 1048576 (by omega) (by omega) (by omega) rfl (Nat.lt_succ_self _) ls (lv_sub hl [3, 4, 5, 2, 1, 0] rfl)
  · rw [zz_o_none (by omega)] at c21
    have hP : va_P D vwCl [(aT, .inr (3, [.int (nI bw), .int (nI G), .ref aTc, .ref aTw, .ref aTt, .int (nI (zz_b cur))])), (aTc, .inl (cA, G, .inl (fun j => zz_o (cm j)))), (aTw, .inl (cA, G, .inl (fun j => nI (((zT_weigh bw cm wo to g fr).1) j)))), (aTt, .inl (cA, G, .inl (fun j => nI (((zT_weigh bw cm wo to g fr).2) j))))] H := by rw [show zT_weigh bw cm wo to g fr = _ from if_neg c21]; exact hP
    have hD : va_D A [(aT, .inr (3, [.int (nI bw), .int (nI G), .ref aTc, .ref aTw, .ref aTt, .int (nI (zz_b cur))])), (aTc, .inl (cA, G, .inl (fun j => zz_o (cm j)))), (aTw, .inl (cA, G, .inl (fun j => nI (((zT_weigh bw cm wo to g fr).1) j)))), (aTt, .inl (cA, G, .inl (fun j => nI (((zT_weigh bw cm wo to g fr).2) j))))] := by rw [show zT_weigh bw cm wo to g fr = _ from if_neg c21]; exact hD
    exact W.vret hx hb hr (fun t ht hW => ⟨⟨(), rfl, trivial, by rw [ht]; exact hP, va_K.moved hW.alike hK, hD⟩, hS.F ht⟩) hS.2.2 d_T_weigh_24

set_option maxHeartbeats 4000000 in
set_option maxRecDepth 100000 in
theorem c_R_size (l : Launch) (D : va_G) (cA : ClassId) (aR : Nat) (aRt : Nat) (aRz : Nat) (aRo : Nat) (aRd : Nat) (aRl : Nat) (bw : Nat) (M : Nat) (tb : Nat → Nat) (zr : Nat → Nat) (on : Nat → Nat) (dp : Nat → Nat) (li : Nat → Nat) (rn : Nat) (rl : Nat) : Met l y_R_size ws_R_size ({ frames := 0, cells := 0, slots := 0, locals := 0 }) (va_Pc [.ref aR] (zz_pre D vwCl [(cA, .int)] [(aR, .inr (4, [.int (nI bw), .ref aRt, .ref aRz, .ref aRo, .ref aRd, .ref aRl, .int (nI rn), .int (nI rl)])), (aRt, .inl (cA, M, .inl (fun j => zz_o (tb j)))), (aRz, .inl (cA, M, .inl (fun j => zz_o (zr j)))), (aRo, .inl (cA, M, .inl (fun j => zz_o (on j)))), (aRd, .inl (cA, M, .inl (fun j => nI (dp j)))), (aRl, .inl (cA, M, .inl (fun j => nI (li j))))] zz_nx)) (QcRead (nI rn)) 0 0 (fun _ => False) := by
  refine Met.ofW (cc := b_R_size) (maxL := 1) (ret := (some .int)) (by decide) rfl ?_
  intro p e s m args below meth c s₁ B hml hv
  obtain ⟨rfl, hP, hK, hX⟩ := hv
  have hS : va_S (fun _ => False) s.heap s.heap [] := va_S.rf
  have hx := B.exec
  have hb := B.bytes
  have hr := B.returns
  have hts := atoms_spec (ws := ws_R_size) B.pre
  have hown : s.vm.findClass "DecodeTests$Tree" = some m.cls := findClass_of_methodNamed B.named
  have hlocks := B.notSynchronized
  have hT : ∀ w9 ∈ zz_T, w9.before ([.ref aR] : List Value).toArray s = true := fun w9 h => hts w9 (List.mem_cons_of_mem _ h)
  have hl := lv_entry ([.ref aR]) (n := 1) (Nat.le_of_ble_eq_true rfl)
  rw [lg_entry_eq]
  generalize (lg_sl ([.ref aR]) ++ List.replicate (1 - (lg_sl ([.ref aR])).length) Slot.unset).toArray = ls at hl ⊢
  have hl : lv_has ls 1 [(0, .ref aR)] := hl
  refine lv_aload_n hx hb d_R_size_0 rfl (lv_at hl 0 rfl) ?_
  refine va_get (D := D) (ci := 4) (v := .int (nI rn)) (C := "DecodeTests$Tree") (T := F_R) (N := 8) hx hb hT hin_R hown hK hP 0 rfl rfl 6 (by decide) (hT _ q_f_R_31) (fun _ h9 => h9) rfl d_R_size_1 ?_
  exact W.iret (v := nI rn) hx hb hr (fun t ht _ => zz_rd (rfl) ht) (fun _ h => by cases h) d_R_size_4

set_option maxHeartbeats 4000000 in
set_option maxRecDepth 100000 in
theorem c_R_leaves (l : Launch) (D : va_G) (cA : ClassId) (aR : Nat) (aRt : Nat) (aRz : Nat) (aRo : Nat) (aRd : Nat) (aRl : Nat) (bw : Nat) (M : Nat) (tb : Nat → Nat) (zr : Nat → Nat) (on : Nat → Nat) (dp : Nat → Nat) (li : Nat → Nat) (rn : Nat) (rl : Nat) : Met l y_R_leaves ws_R_leaves ({ frames := 0, cells := 0, slots := 0, locals := 0 }) (va_Pc [.ref aR] (zz_pre D vwCl [(cA, .int)] [(aR, .inr (4, [.int (nI bw), .ref aRt, .ref aRz, .ref aRo, .ref aRd, .ref aRl, .int (nI rn), .int (nI rl)])), (aRt, .inl (cA, M, .inl (fun j => zz_o (tb j)))), (aRz, .inl (cA, M, .inl (fun j => zz_o (zr j)))), (aRo, .inl (cA, M, .inl (fun j => zz_o (on j)))), (aRd, .inl (cA, M, .inl (fun j => nI (dp j)))), (aRl, .inl (cA, M, .inl (fun j => nI (li j))))] zz_nx)) (QcRead (nI rl)) 0 0 (fun _ => False) := by
  refine Met.ofW (cc := b_R_leaves) (maxL := 1) (ret := (some .int)) (by decide) rfl ?_
  intro p e s m args below meth c s₁ B hml hv
  obtain ⟨rfl, hP, hK, hX⟩ := hv
  have hS : va_S (fun _ => False) s.heap s.heap [] := va_S.rf
  have hx := B.exec
  have hb := B.bytes
  have hr := B.returns
  have hts := atoms_spec (ws := ws_R_leaves) B.pre
  have hown : s.vm.findClass "DecodeTests$Tree" = some m.cls := findClass_of_methodNamed B.named
  have hlocks := B.notSynchronized
  have hT : ∀ w9 ∈ zz_T, w9.before ([.ref aR] : List Value).toArray s = true := fun w9 h => hts w9 (List.mem_cons_of_mem _ h)
  have hl := lv_entry ([.ref aR]) (n := 1) (Nat.le_of_ble_eq_true rfl)
  rw [lg_entry_eq]
  generalize (lg_sl ([.ref aR]) ++ List.replicate (1 - (lg_sl ([.ref aR])).length) Slot.unset).toArray = ls at hl ⊢
  have hl : lv_has ls 1 [(0, .ref aR)] := hl
  refine lv_aload_n hx hb d_R_leaves_0 rfl (lv_at hl 0 rfl) ?_
  refine va_get (D := D) (ci := 4) (v := .int (nI rl)) (C := "DecodeTests$Tree") (T := F_R) (N := 8) hx hb hT hin_R hown hK hP 0 rfl rfl 7 (by decide) (hT _ q_f_R_34) (fun _ h9 => h9) rfl d_R_leaves_1 ?_
  exact W.iret (v := nI rl) hx hb hr (fun t ht _ => zz_rd (rfl) ht) (fun _ h => by cases h) d_R_leaves_4

set_option maxHeartbeats 4000000 in
set_option maxRecDepth 100000 in
theorem c_R_bitOf (l : Launch) (D : va_G) (cA : ClassId) (aR : Nat) (aRt : Nat) (aRz : Nat) (aRo : Nat) (aRd : Nat) (aRl : Nat) (bw : Nat) (M : Nat) (tb : Nat → Nat) (zr : Nat → Nat) (on : Nat → Nat) (dp : Nat → Nat) (li : Nat → Nat) (rn : Nat) (rl : Nat) (k : Nat) (hM : M ≤ 511) (hk : k < M) : Met l y_R_bitOf ws_R_bitOf ({ frames := 0, cells := 0, slots := 0, locals := 0 }) (va_Pc [.ref aR, .int (nI k)] (zz_pre D vwCl [(cA, .int)] [(aR, .inr (4, [.int (nI bw), .ref aRt, .ref aRz, .ref aRo, .ref aRd, .ref aRl, .int (nI rn), .int (nI rl)])), (aRt, .inl (cA, M, .inl (fun j => zz_o (tb j)))), (aRz, .inl (cA, M, .inl (fun j => zz_o (zr j)))), (aRo, .inl (cA, M, .inl (fun j => zz_o (on j)))), (aRd, .inl (cA, M, .inl (fun j => nI (dp j)))), (aRl, .inl (cA, M, .inl (fun j => nI (li j))))] zz_nx)) (QcRead (zz_o (tb k))) 0 0 (fun _ => False) := by
  refine Met.ofW (cc := b_R_bitOf) (maxL := 2) (ret := (some .int)) (by decide) rfl ?_
  intro p e s m args below meth c s₁ B hml hv
  obtain ⟨rfl, hP, hK, hX⟩ := hv
  have hS : va_S (fun _ => False) s.heap s.heap [] := va_S.rf
  have hx := B.exec
  have hb := B.bytes
  have hr := B.returns
  have hts := atoms_spec (ws := ws_R_bitOf) B.pre
  have hown : s.vm.findClass "DecodeTests$Tree" = some m.cls := findClass_of_methodNamed B.named
  have hlocks := B.notSynchronized
  have hT : ∀ w9 ∈ zz_T, w9.before ([.ref aR, .int (nI k)] : List Value).toArray s = true := fun w9 h => hts w9 (List.mem_cons_of_mem _ h)
  have hl := lv_entry ([.ref aR, .int (nI k)]) (n := 2) (Nat.le_of_ble_eq_true rfl)
  rw [lg_entry_eq]
  generalize (lg_sl ([.ref aR, .int (nI k)]) ++ List.replicate (2 - (lg_sl ([.ref aR, .int (nI k)])).length) Slot.unset).toArray = ls at hl ⊢
  have hl : lv_has ls 2 [(0, .ref aR), (1, .int (nI k))] := hl
  refine lv_aload_n hx hb d_R_bitOf_0 rfl (lv_at hl 0 rfl) ?_
  refine va_get (D := D) (ci := 4) (v := .ref aRt) (C := "DecodeTests$Tree") (T := F_R) (N := 8) hx hb hT hin_R hown hK hP 0 rfl rfl 1 (by decide) (hT _ q_f_R_15) (fun _ h9 => h9) rfl d_R_bitOf_1 ?_
  refine lv_iload_n hx hb d_R_bitOf_4 rfl (lv_at hl 1 rfl) ?_
  refine zz_iald hx hb hK hP 1 0 rfl rfl (j := k) (by omega) (by omega) d_R_bitOf_5 ?_
  refine zz_top (y := zz_o (tb k)) rfl ?_
  exact W.iret (v := zz_o (tb k)) hx hb hr (fun t ht _ => zz_rd (rfl) ht) (fun _ h => by cases h) d_R_bitOf_6

set_option maxHeartbeats 4000000 in
set_option maxRecDepth 100000 in
theorem c_R_depthOf (l : Launch) (D : va_G) (cA : ClassId) (aR : Nat) (aRt : Nat) (aRz : Nat) (aRo : Nat) (aRd : Nat) (aRl : Nat) (bw : Nat) (M : Nat) (tb : Nat → Nat) (zr : Nat → Nat) (on : Nat → Nat) (dp : Nat → Nat) (li : Nat → Nat) (rn : Nat) (rl : Nat) (k : Nat) (hM : M ≤ 511) (hk : k < M) : Met l y_R_depthOf ws_R_depthOf ({ frames := 0, cells := 0, slots := 0, locals := 0 }) (va_Pc [.ref aR, .int (nI k)] (zz_pre D vwCl [(cA, .int)] [(aR, .inr (4, [.int (nI bw), .ref aRt, .ref aRz, .ref aRo, .ref aRd, .ref aRl, .int (nI rn), .int (nI rl)])), (aRt, .inl (cA, M, .inl (fun j => zz_o (tb j)))), (aRz, .inl (cA, M, .inl (fun j => zz_o (zr j)))), (aRo, .inl (cA, M, .inl (fun j => zz_o (on j)))), (aRd, .inl (cA, M, .inl (fun j => nI (dp j)))), (aRl, .inl (cA, M, .inl (fun j => nI (li j))))] zz_nx)) (QcRead (nI (dp k))) 0 0 (fun _ => False) := by
  refine Met.ofW (cc := b_R_depthOf) (maxL := 2) (ret := (some .int)) (by decide) rfl ?_
  intro p e s m args below meth c s₁ B hml hv
  obtain ⟨rfl, hP, hK, hX⟩ := hv
  have hS : va_S (fun _ => False) s.heap s.heap [] := va_S.rf
  have hx := B.exec
  have hb := B.bytes
  have hr := B.returns
  have hts := atoms_spec (ws := ws_R_depthOf) B.pre
  have hown : s.vm.findClass "DecodeTests$Tree" = some m.cls := findClass_of_methodNamed B.named
  have hlocks := B.notSynchronized
  have hT : ∀ w9 ∈ zz_T, w9.before ([.ref aR, .int (nI k)] : List Value).toArray s = true := fun w9 h => hts w9 (List.mem_cons_of_mem _ h)
  have hl := lv_entry ([.ref aR, .int (nI k)]) (n := 2) (Nat.le_of_ble_eq_true rfl)
  rw [lg_entry_eq]
  generalize (lg_sl ([.ref aR, .int (nI k)]) ++ List.replicate (2 - (lg_sl ([.ref aR, .int (nI k)])).length) Slot.unset).toArray = ls at hl ⊢
  have hl : lv_has ls 2 [(0, .ref aR), (1, .int (nI k))] := hl
  refine lv_aload_n hx hb d_R_depthOf_0 rfl (lv_at hl 0 rfl) ?_
  refine va_get (D := D) (ci := 4) (v := .ref aRd) (C := "DecodeTests$Tree") (T := F_R) (N := 8) hx hb hT hin_R hown hK hP 0 rfl rfl 4 (by decide) (hT _ q_f_R_25) (fun _ h9 => h9) rfl d_R_depthOf_1 ?_
  refine lv_iload_n hx hb d_R_depthOf_4 rfl (lv_at hl 1 rfl) ?_
  refine zz_iald hx hb hK hP 4 0 rfl rfl (j := k) (by omega) (by omega) d_R_depthOf_5 ?_
  refine zz_top (y := nI (dp k)) rfl ?_
  exact W.iret (v := nI (dp k)) hx hb hr (fun t ht _ => zz_rd (rfl) ht) (fun _ h => by cases h) d_R_depthOf_6

set_option maxHeartbeats 4000000 in
set_option maxRecDepth 100000 in
theorem c_R_listOf (l : Launch) (D : va_G) (cA : ClassId) (aR : Nat) (aRt : Nat) (aRz : Nat) (aRo : Nat) (aRd : Nat) (aRl : Nat) (bw : Nat) (M : Nat) (tb : Nat → Nat) (zr : Nat → Nat) (on : Nat → Nat) (dp : Nat → Nat) (li : Nat → Nat) (rn : Nat) (rl : Nat) (k : Nat) (hM : M ≤ 511) (hk : k < M) : Met l y_R_listOf ws_R_listOf ({ frames := 0, cells := 0, slots := 0, locals := 0 }) (va_Pc [.ref aR, .int (nI k)] (zz_pre D vwCl [(cA, .int)] [(aR, .inr (4, [.int (nI bw), .ref aRt, .ref aRz, .ref aRo, .ref aRd, .ref aRl, .int (nI rn), .int (nI rl)])), (aRt, .inl (cA, M, .inl (fun j => zz_o (tb j)))), (aRz, .inl (cA, M, .inl (fun j => zz_o (zr j)))), (aRo, .inl (cA, M, .inl (fun j => zz_o (on j)))), (aRd, .inl (cA, M, .inl (fun j => nI (dp j)))), (aRl, .inl (cA, M, .inl (fun j => nI (li j))))] zz_nx)) (QcRead (nI (li k))) 0 0 (fun _ => False) := by
  refine Met.ofW (cc := b_R_listOf) (maxL := 2) (ret := (some .int)) (by decide) rfl ?_
  intro p e s m args below meth c s₁ B hml hv
  obtain ⟨rfl, hP, hK, hX⟩ := hv
  have hS : va_S (fun _ => False) s.heap s.heap [] := va_S.rf
  have hx := B.exec
  have hb := B.bytes
  have hr := B.returns
  have hts := atoms_spec (ws := ws_R_listOf) B.pre
  have hown : s.vm.findClass "DecodeTests$Tree" = some m.cls := findClass_of_methodNamed B.named
  have hlocks := B.notSynchronized
  have hT : ∀ w9 ∈ zz_T, w9.before ([.ref aR, .int (nI k)] : List Value).toArray s = true := fun w9 h => hts w9 (List.mem_cons_of_mem _ h)
  have hl := lv_entry ([.ref aR, .int (nI k)]) (n := 2) (Nat.le_of_ble_eq_true rfl)
  rw [lg_entry_eq]
  generalize (lg_sl ([.ref aR, .int (nI k)]) ++ List.replicate (2 - (lg_sl ([.ref aR, .int (nI k)])).length) Slot.unset).toArray = ls at hl ⊢
  have hl : lv_has ls 2 [(0, .ref aR), (1, .int (nI k))] := hl
  refine lv_aload_n hx hb d_R_listOf_0 rfl (lv_at hl 0 rfl) ?_
  refine va_get (D := D) (ci := 4) (v := .ref aRl) (C := "DecodeTests$Tree") (T := F_R) (N := 8) hx hb hT hin_R hown hK hP 0 rfl rfl 5 (by decide) (hT _ q_f_R_28) (fun _ h9 => h9) rfl d_R_listOf_1 ?_
  refine lv_iload_n hx hb d_R_listOf_4 rfl (lv_at hl 1 rfl) ?_
  refine zz_iald hx hb hK hP 5 0 rfl rfl (j := k) (by omega) (by omega) d_R_listOf_5 ?_
  refine zz_top (y := nI (li k)) rfl ?_
  exact W.iret (v := nI (li k)) hx hb hr (fun t ht _ => zz_rd (rfl) ht) (fun _ h => by cases h) d_R_listOf_6

set_option maxHeartbeats 4000000 in
set_option maxRecDepth 100000 in
theorem c_R_sideOf (l : Launch) (D : va_G) (cA : ClassId) (aR : Nat) (aRt : Nat) (aRz : Nat) (aRo : Nat) (aRd : Nat) (aRl : Nat) (bw : Nat) (M : Nat) (tb : Nat → Nat) (zr : Nat → Nat) (on : Nat → Nat) (dp : Nat → Nat) (li : Nat → Nat) (rn : Nat) (rl : Nat) (k : Nat) (v : Nat) (hM : M ≤ 511) (hk : k < M) (hv : v < 2) : Met l y_R_sideOf ws_R_sideOf ({ frames := 0, cells := 0, slots := 0, locals := 0 }) (va_Pc [.ref aR, .int (nI k), .int (nI v)] (zz_pre D vwCl [(cA, .int)] [(aR, .inr (4, [.int (nI bw), .ref aRt, .ref aRz, .ref aRo, .ref aRd, .ref aRl, .int (nI rn), .int (nI rl)])), (aRt, .inl (cA, M, .inl (fun j => zz_o (tb j)))), (aRz, .inl (cA, M, .inl (fun j => zz_o (zr j)))), (aRo, .inl (cA, M, .inl (fun j => zz_o (on j)))), (aRd, .inl (cA, M, .inl (fun j => nI (dp j)))), (aRl, .inl (cA, M, .inl (fun j => nI (li j))))] zz_nx)) (QcRead (zz_o (if v = 0 then zr k else on k))) 0 0 (fun _ => False) := by
  refine Met.ofW (cc := b_R_sideOf) (maxL := 3) (ret := (some .int)) (by decide) rfl ?_
  intro p e s m args below meth c s₁ B hml hv
  obtain ⟨rfl, hP, hK, hX⟩ := hv
  have hS : va_S (fun _ => False) s.heap s.heap [] := va_S.rf
  have hx := B.exec
  have hb := B.bytes
  have hr := B.returns
  have hts := atoms_spec (ws := ws_R_sideOf) B.pre
  have hown : s.vm.findClass "DecodeTests$Tree" = some m.cls := findClass_of_methodNamed B.named
  have hlocks := B.notSynchronized
  have hT : ∀ w9 ∈ zz_T, w9.before ([.ref aR, .int (nI k), .int (nI v)] : List Value).toArray s = true := fun w9 h => hts w9 (List.mem_cons_of_mem _ h)
  have hl := lv_entry ([.ref aR, .int (nI k), .int (nI v)]) (n := 3) (Nat.le_of_ble_eq_true rfl)
  rw [lg_entry_eq]
  generalize (lg_sl ([.ref aR, .int (nI k), .int (nI v)]) ++ List.replicate (3 - (lg_sl ([.ref aR, .int (nI k), .int (nI v)])).length) Slot.unset).toArray = ls at hl ⊢
  have hl : lv_has ls 3 [(0, .ref aR), (1, .int (nI k)), (2, .int (nI v))] := hl
  refine lv_iload_n hx hb d_R_sideOf_0 rfl (lv_at hl 2 rfl) ?_
  refine lv_if_ne (tgt := 13) hx hb d_R_sideOf_1 (by decide) (fun c1 => ?_) (fun c1 => ?_)
  · rw [zz_eq0 (by omega)] at c1
    refine lv_aload_n hx hb d_R_sideOf_13 rfl (lv_at hl 0 rfl) ?_
    refine va_get (D := D) (ci := 4) (v := .ref aRo) (C := "DecodeTests$Tree") (T := F_R) (N := 8) hx hb hT hin_R hown hK hP 0 rfl rfl 3 (by decide) (hT _ q_f_R_22) (fun _ h9 => h9) rfl d_R_sideOf_14 ?_
    refine lv_iload_n hx hb d_R_sideOf_17 rfl (lv_at hl 1 rfl) ?_
    refine zz_iald hx hb hK hP 3 0 rfl rfl (j := k) (by omega) (by omega) d_R_sideOf_18 ?_
    refine zz_top (y := zz_o (on k)) rfl ?_
    exact W.iret (v := zz_o (on k)) hx hb hr (fun t ht _ => zz_rd (by simp [c1]) ht) (fun _ h => by cases h) d_R_sideOf_19
  · rw [zz_eq0 (by omega)] at c1
    refine lv_aload_n hx hb d_R_sideOf_4 rfl (lv_at hl 0 rfl) ?_
    refine va_get (D := D) (ci := 4) (v := .ref aRz) (C := "DecodeTests$Tree") (T := F_R) (N := 8) hx hb hT hin_R hown hK hP 0 rfl rfl 2 (by decide) (hT _ q_f_R_19) (fun _ h9 => h9) rfl d_R_sideOf_5 ?_
    refine lv_iload_n hx hb d_R_sideOf_8 rfl (lv_at hl 1 rfl) ?_
    refine zz_iald hx hb hK hP 2 0 rfl rfl (j := k) (by omega) (by omega) d_R_sideOf_9 ?_
    refine zz_top (y := zz_o (zr k)) rfl ?_
    refine lv_goto (tgt := 19) hx hb d_R_sideOf_10 (by decide) ?_
    exact W.iret (v := zz_o (zr k)) hx hb hr (fun t ht _ => zz_rd (by simp [c1]) ht) (fun _ h => by cases h) d_R_sideOf_19

set_option maxHeartbeats 4000000 in
set_option maxRecDepth 100000 in
theorem c_R_wordsOf (l : Launch) (D : va_G) (cA : ClassId) (aR : Nat) (aRt : Nat) (aRz : Nat) (aRo : Nat) (aRd : Nat) (aRl : Nat) (bw : Nat) (M : Nat) (tb : Nat → Nat) (zr : Nat → Nat) (on : Nat → Nat) (dp : Nat → Nat) (li : Nat → Nat) (rn : Nat) (rl : Nat) (k : Nat) (hM : M ≤ 511) (hk : k < M) (hW : bw ≤ 8) (hd : dp k ≤ bw) : Met l y_R_wordsOf ws_R_wordsOf ({ frames := 0, cells := 0, slots := 0, locals := 0 }) (va_Pc [.ref aR, .int (nI k)] (zz_pre D vwCl [(cA, .int)] [(aR, .inr (4, [.int (nI bw), .ref aRt, .ref aRz, .ref aRo, .ref aRd, .ref aRl, .int (nI rn), .int (nI rl)])), (aRt, .inl (cA, M, .inl (fun j => zz_o (tb j)))), (aRz, .inl (cA, M, .inl (fun j => zz_o (zr j)))), (aRo, .inl (cA, M, .inl (fun j => zz_o (on j)))), (aRd, .inl (cA, M, .inl (fun j => nI (dp j)))), (aRl, .inl (cA, M, .inl (fun j => nI (li j))))] zz_nx)) (QcRead (nI (1 * 2 ^ (bw - dp k)))) 0 0 (fun _ => False) := by
  refine Met.ofW (cc := b_R_wordsOf) (maxL := 2) (ret := (some .int)) (by decide) rfl ?_
  intro p e s m args below meth c s₁ B hml hv
  obtain ⟨rfl, hP, hK, hX⟩ := hv
  have hS : va_S (fun _ => False) s.heap s.heap [] := va_S.rf
  have hx := B.exec
  have hb := B.bytes
  have hr := B.returns
  have hts := atoms_spec (ws := ws_R_wordsOf) B.pre
  have hown : s.vm.findClass "DecodeTests$Tree" = some m.cls := findClass_of_methodNamed B.named
  have hlocks := B.notSynchronized
  have hT : ∀ w9 ∈ zz_T, w9.before ([.ref aR, .int (nI k)] : List Value).toArray s = true := fun w9 h => hts w9 (List.mem_cons_of_mem _ h)
  have hl := lv_entry ([.ref aR, .int (nI k)]) (n := 2) (Nat.le_of_ble_eq_true rfl)
  rw [lg_entry_eq]
  generalize (lg_sl ([.ref aR, .int (nI k)]) ++ List.replicate (2 - (lg_sl ([.ref aR, .int (nI k)])).length) Slot.unset).toArray = ls at hl ⊢
  have hl : lv_has ls 2 [(0, .ref aR), (1, .int (nI k))] := hl
  have b1 := zz_2le (a := 1) (b := bw - dp k) (by omega)
  refine lv_iconst (v := nI 1) hx hb d_R_wordsOf_0 (by decide) ?_
  refine lv_aload_n hx hb d_R_wordsOf_1 rfl (lv_at hl 0 rfl) ?_
  refine va_get (D := D) (ci := 4) (v := .int (nI bw)) (C := "DecodeTests$Tree") (T := F_R) (N := 8) hx hb hT hin_R hown hK hP 0 rfl rfl 0 (by decide) (hT _ q_f_R_9) (fun _ h9 => h9) rfl d_R_wordsOf_2 ?_
  refine lv_aload_n hx hb d_R_wordsOf_5 rfl (lv_at hl 0 rfl) ?_
  refine va_get (D := D) (ci := 4) (v := .ref aRd) (C := "DecodeTests$Tree") (T := F_R) (N := 8) hx hb hT hin_R hown hK hP 0 rfl rfl 4 (by decide) (hT _ q_f_R_25) (fun _ h9 => h9) rfl d_R_wordsOf_6 ?_
  refine lv_iload_n hx hb d_R_wordsOf_9 rfl (lv_at hl 1 rfl) ?_
  refine zz_iald hx hb hK hP 4 0 rfl rfl (j := k) (by omega) (by omega) d_R_wordsOf_10 ?_
  refine zz_top (y := nI (dp k)) rfl ?_
  refine lv_isub hx hb d_R_wordsOf_11 ?_
  refine zz_top (y := nI (bw - (dp k))) (pk_sub (by omega)) ?_
  refine lv_ishl hx hb d_R_wordsOf_12 ?_
  refine zz_top (y := nI (1 * 2 ^ (bw - (dp k)))) (zz_shl (by omega) (by omega)) ?_
  exact W.iret (v := nI (1 * 2 ^ (bw - (dp k)))) hx hb hr (fun t ht _ => zz_rd (rfl) ht) (fun _ h => by cases h) d_R_wordsOf_13

set_option maxHeartbeats 4000000 in
set_option maxRecDepth 100000 in
theorem c_R_addNode (l : Launch) (D : va_G) (cA : ClassId) (aR : Nat) (aRt : Nat) (aRz : Nat) (aRo : Nat) (aRd : Nat) (aRl : Nat) (bw : Nat) (M : Nat) (tb : Nat → Nat) (zr : Nat → Nat) (on : Nat → Nat) (dp : Nat → Nat) (li : Nat → Nat) (rn : Nat) (rl : Nat) (b9 : Nat) (d9 : Nat) (sz : Nat) (hM : M ≤ 511) (hrn : rn < M) : Met l y_R_addNode ws_R_addNode ({ frames := 0, cells := 0, slots := 0, locals := 0 }) (va_Pc [.ref aR, .int (zz_o b9), .int (nI d9)] (zz_preW D vwCl [(cA, .int)] [(aR, .inr (4, [.int (nI bw), .ref aRt, .ref aRz, .ref aRo, .ref aRd, .ref aRl, .int (nI rn), .int (nI rl)])), (aRt, .inl (cA, M, .inl (fun j => zz_o (tb j)))), (aRz, .inl (cA, M, .inl (fun j => zz_o (zr j)))), (aRo, .inl (cA, M, .inl (fun j => zz_o (on j)))), (aRd, .inl (cA, M, .inl (fun j => nI (dp j)))), (aRl, .inl (cA, M, .inl (fun j => nI (li j))))] sz zz_nx)) (va_Qi (fun (z : Int32) (_ : Unit) => z = nI rn) (fun _ => zz_post D vwCl [(cA, .int)] (va_A [(aR, .inr (4, [.int (nI bw), .ref aRt, .ref aRz, .ref aRo, .ref aRd, .ref aRl, .int (nI rn), .int (nI rl)])), (aRt, .inl (cA, M, .inl (fun j => zz_o (tb j)))), (aRz, .inl (cA, M, .inl (fun j => zz_o (zr j)))), (aRo, .inl (cA, M, .inl (fun j => zz_o (on j)))), (aRd, .inl (cA, M, .inl (fun j => nI (dp j)))), (aRl, .inl (cA, M, .inl (fun j => nI (li j))))] sz) [(aR, .inr (4, [.int (nI bw), .ref aRt, .ref aRz, .ref aRo, .ref aRd, .ref aRl, .int (nI (rn + 1)), .int (nI rl)])), (aRt, .inl (cA, M, .inl (fun j => zz_o ((zz_up tb rn b9) j)))), (aRz, .inl (cA, M, .inl (fun j => zz_o (zr j)))), (aRo, .inl (cA, M, .inl (fun j => zz_o (on j)))), (aRd, .inl (cA, M, .inl (fun j => nI ((zz_up dp rn d9) j)))), (aRl, .inl (cA, M, .inl (fun j => nI ((zz_up li rn 0) j))))]) (va_A [(aR, .inr (4, [.int (nI bw), .ref aRt, .ref aRz, .ref aRo, .ref aRd, .ref aRl, .int (nI rn), .int (nI rl)])), (aRt, .inl (cA, M, .inl (fun j => zz_o (tb j)))), (aRz, .inl (cA, M, .inl (fun j => zz_o (zr j)))), (aRo, .inl (cA, M, .inl (fun j => zz_o (on j)))), (aRd, .inl (cA, M, .inl (fun j => nI (dp j)))), (aRl, .inl (cA, M, .inl (fun j => nI (li j))))] sz)) 0 0 (va_A [(aR, .inr (4, [.int (nI bw), .ref aRt, .ref aRz, .ref aRo, .ref aRd, .ref aRl, .int (nI rn), .int (nI rl)])), (aRt, .inl (cA, M, .inl (fun j => zz_o (tb j)))), (aRz, .inl (cA, M, .inl (fun j => zz_o (zr j)))), (aRo, .inl (cA, M, .inl (fun j => zz_o (on j)))), (aRd, .inl (cA, M, .inl (fun j => nI (dp j)))), (aRl, .inl (cA, M, .inl (fun j => nI (li j))))] sz) := by
  refine Met.ofW (cc := b_R_addNode) (maxL := 4) (ret := (some .int)) (by decide) rfl ?_
  intro p e s m args below meth c s₁ B hml hv
  obtain ⟨rfl, hsz, hP, hK, hD0, hX⟩ := hv
  have hx := B.exec
  have hb := B.bytes
  have hr := B.returns
  have hts := atoms_spec (ws := ws_R_addNode) B.pre
  have hown : s.vm.findClass "DecodeTests$Tree" = some m.cls := findClass_of_methodNamed B.named
  have hlocks := B.notSynchronized
  have hT : ∀ w9 ∈ zz_T, w9.before ([.ref aR, .int (zz_o b9), .int (nI d9)] : List Value).toArray s = true := fun w9 h => hts w9 (List.mem_cons_of_mem _ h)
  subst hsz
  have hD := hD0.self (sz := s.heap.size)
  generalize hAe : va_A [(aR, .inr (4, [.int (nI bw), .ref aRt, .ref aRz, .ref aRo, .ref aRd, .ref aRl, .int (nI rn), .int (nI rl)])), (aRt, .inl (cA, M, .inl (fun j => zz_o (tb j)))), (aRz, .inl (cA, M, .inl (fun j => zz_o (zr j)))), (aRo, .inl (cA, M, .inl (fun j => zz_o (on j)))), (aRd, .inl (cA, M, .inl (fun j => nI (dp j)))), (aRl, .inl (cA, M, .inl (fun j => nI (li j))))] s.heap.size = A at hD hX ⊢
  have hA : ∀ q : Nat, s.heap.size ≤ q → A q := fun q h => by rw [← hAe]; exact Or.inr h
  have hS : va_S A s.heap s.heap [] := va_S.rf
  have hl := lv_entry ([.ref aR, .int (zz_o b9), .int (nI d9)]) (n := 4) (Nat.le_of_ble_eq_true rfl)
  rw [lg_entry_eq]
  generalize (lg_sl ([.ref aR, .int (zz_o b9), .int (nI d9)]) ++ List.replicate (4 - (lg_sl ([.ref aR, .int (zz_o b9), .int (nI d9)])).length) Slot.unset).toArray = ls at hl ⊢
  have hl : lv_has ls 4 [(0, .ref aR), (1, .int (zz_o b9)), (2, .int (nI d9))] := hl
  refine lv_aload_n hx hb d_R_addNode_0 rfl (lv_at hl 0 rfl) ?_
  refine va_get (D := D) (ci := 4) (v := .int (nI rn)) (C := "DecodeTests$Tree") (T := F_R) (N := 8) hx hb hT hin_R hown hK hP 0 rfl rfl 6 (by decide) (hT _ q_f_R_31) (fun _ h9 => h9) rfl d_R_addNode_1 ?_
  refine lv_istore_n (lv' := [(3, .int (nI rn)), (0, .ref aR), (1, .int (zz_o b9)), (2, .int (nI d9))]) hx hb d_R_addNode_4 rfl hl (by decide) rfl (fun ls hl => ?_)
  refine lv_aload_n hx hb d_R_addNode_5 rfl (lv_at hl 1 rfl) ?_
  refine va_get (D := D) (ci := 4) (v := .ref aRt) (C := "DecodeTests$Tree") (T := F_R) (N := 8) hx hb hT hin_R hown hK hP 0 rfl rfl 1 (by decide) (hT _ q_f_R_15) (fun _ h9 => h9) rfl d_R_addNode_6 ?_
  refine lv_iload_n hx hb d_R_addNode_9 rfl (lv_at hl 0 rfl) ?_
  refine lv_iload_n hx hb d_R_addNode_10 rfl (lv_at hl 2 rfl) ?_
  refine zz_iastO hx hb hK hP hD hS 1 0 rfl rfl (j := rn) (by omega) (by omega) d_R_addNode_11 (fun H locs hP hD hS => ?_)
  have hP : va_P D vwCl [(aR, .inr (4, [.int (nI bw), .ref aRt, .ref aRz, .ref aRo, .ref aRd, .ref aRl, .int (nI rn), .int (nI rl)])), (aRt, .inl (cA, M, .inl (fun j => zz_o ((zz_up tb rn b9) j)))), (aRz, .inl (cA, M, .inl (fun j => zz_o (zr j)))), (aRo, .inl (cA, M, .inl (fun j => zz_o (on j)))), (aRd, .inl (cA, M, .inl (fun j => nI (dp j)))), (aRl, .inl (cA, M, .inl (fun j => nI (li j))))] H := hP
  have hD : va_D A [(aR, .inr (4, [.int (nI bw), .ref aRt, .ref aRz, .ref aRo, .ref aRd, .ref aRl, .int (nI rn), .int (nI rl)])), (aRt, .inl (cA, M, .inl (fun j => zz_o ((zz_up tb rn b9) j)))), (aRz, .inl (cA, M, .inl (fun j => zz_o (zr j)))), (aRo, .inl (cA, M, .inl (fun j => zz_o (on j)))), (aRd, .inl (cA, M, .inl (fun j => nI (dp j)))), (aRl, .inl (cA, M, .inl (fun j => nI (li j))))] := hD
  refine lv_aload_n hx hb d_R_addNode_12 rfl (lv_at hl 1 rfl) ?_
  refine va_get (D := D) (ci := 4) (v := .ref aRd) (C := "DecodeTests$Tree") (T := F_R) (N := 8) hx hb hT hin_R hown hK hP 0 rfl rfl 4 (by decide) (hT _ q_f_R_25) (fun _ h9 => h9) rfl d_R_addNode_13 ?_
  refine lv_iload_n hx hb d_R_addNode_16 rfl (lv_at hl 0 rfl) ?_
  refine lv_iload_n hx hb d_R_addNode_17 rfl (lv_at hl 3 rfl) ?_
  refine zz_iastN hx hb hK hP hD hS 4 0 rfl rfl (j := rn) (by omega) (by omega) d_R_addNode_18 (fun H locs hP hD hS => ?_)
  have hP : va_P D vwCl [(aR, .inr (4, [.int (nI bw), .ref aRt, .ref aRz, .ref aRo, .ref aRd, .ref aRl, .int (nI rn), .int (nI rl)])), (aRt, .inl (cA, M, .inl (fun j => zz_o ((zz_up tb rn b9) j)))), (aRz, .inl (cA, M, .inl (fun j => zz_o (zr j)))), (aRo, .inl (cA, M, .inl (fun j => zz_o (on j)))), (aRd, .inl (cA, M, .inl (fun j => nI ((zz_up dp rn d9) j)))), (aRl, .inl (cA, M, .inl (fun j => nI (li j))))] H := hP
  have hD : va_D A [(aR, .inr (4, [.int (nI bw), .ref aRt, .ref aRz, .ref aRo, .ref aRd, .ref aRl, .int (nI rn), .int (nI rl)])), (aRt, .inl (cA, M, .inl (fun j => zz_o ((zz_up tb rn b9) j)))), (aRz, .inl (cA, M, .inl (fun j => zz_o (zr j)))), (aRo, .inl (cA, M, .inl (fun j => zz_o (on j)))), (aRd, .inl (cA, M, .inl (fun j => nI ((zz_up dp rn d9) j)))), (aRl, .inl (cA, M, .inl (fun j => nI (li j))))] := hD
  refine lv_aload_n hx hb d_R_addNode_19 rfl (lv_at hl 1 rfl) ?_
  refine va_get (D := D) (ci := 4) (v := .ref aRl) (C := "DecodeTests$Tree") (T := F_R) (N := 8) hx hb hT hin_R hown hK hP 0 rfl rfl 5 (by decide) (hT _ q_f_R_28) (fun _ h9 => h9) rfl d_R_addNode_20 ?_
  refine lv_iload_n hx hb d_R_addNode_23 rfl (lv_at hl 0 rfl) ?_
  refine lv_iconst (v := nI 0) hx hb d_R_addNode_24 (by decide) ?_
  refine zz_iastN hx hb hK hP hD hS 5 0 rfl rfl (j := rn) (by omega) (by omega) d_R_addNode_25 (fun H locs hP hD hS => ?_)
  have hP : va_P D vwCl [(aR, .inr (4, [.int (nI bw), .ref aRt, .ref aRz, .ref aRo, .ref aRd, .ref aRl, .int (nI rn), .int (nI rl)])), (aRt, .inl (cA, M, .inl (fun j => zz_o ((zz_up tb rn b9) j)))), (aRz, .inl (cA, M, .inl (fun j => zz_o (zr j)))), (aRo, .inl (cA, M, .inl (fun j => zz_o (on j)))), (aRd, .inl (cA, M, .inl (fun j => nI ((zz_up dp rn d9) j)))), (aRl, .inl (cA, M, .inl (fun j => nI ((zz_up li rn 0) j))))] H := hP
  have hD : va_D A [(aR, .inr (4, [.int (nI bw), .ref aRt, .ref aRz, .ref aRo, .ref aRd, .ref aRl, .int (nI rn), .int (nI rl)])), (aRt, .inl (cA, M, .inl (fun j => zz_o ((zz_up tb rn b9) j)))), (aRz, .inl (cA, M, .inl (fun j => zz_o (zr j)))), (aRo, .inl (cA, M, .inl (fun j => zz_o (on j)))), (aRd, .inl (cA, M, .inl (fun j => nI ((zz_up dp rn d9) j)))), (aRl, .inl (cA, M, .inl (fun j => nI ((zz_up li rn 0) j))))] := hD
  refine lv_aload_n hx hb d_R_addNode_26 rfl (lv_at hl 1 rfl) ?_
  refine lv_dup hx hb d_R_addNode_27 rfl ?_
  refine va_get (D := D) (ci := 4) (v := .int (nI rn)) (C := "DecodeTests$Tree") (T := F_R) (N := 8) hx hb hT hin_R hown hK hP 0 rfl rfl 6 (by decide) (hT _ q_f_R_31) (fun _ h9 => h9) rfl d_R_addNode_28 ?_
  refine lv_iconst (v := nI 1) hx hb d_R_addNode_31 (by decide) ?_
  refine lv_iadd hx hb d_R_addNode_32 ?_
  refine zz_top (y := nI (rn + 1)) (nI_add rn 1) ?_
  refine va_put (D := D) (ci := 4) (v := .int (nI (rn + 1))) (ty := .int) (C := "DecodeTests$Tree") (T := F_R) (N := 8) hx hb hT hin_R ft_R ft_R_ok n_R hown hK hP hD hS 0 rfl rfl 6 (by decide) (hT _ q_f_R_31) (fun _ h9 => h9) rfl (by decide +kernel) rfl rfl (Nat.le_of_ble_eq_true rfl) d_R_addNode_33 (fun H locs hP hD hS => ?_)
  have hP : va_P D vwCl [(aR, .inr (4, [.int (nI bw), .ref aRt, .ref aRz, .ref aRo, .ref aRd, .ref aRl, .int (nI (rn + 1)), .int (nI rl)])), (aRt, .inl (cA, M, .inl (fun j => zz_o ((zz_up tb rn b9) j)))), (aRz, .inl (cA, M, .inl (fun j => zz_o (zr j)))), (aRo, .inl (cA, M, .inl (fun j => zz_o (on j)))), (aRd, .inl (cA, M, .inl (fun j => nI ((zz_up dp rn d9) j)))), (aRl, .inl (cA, M, .inl (fun j => nI ((zz_up li rn 0) j))))] H := hP
  have hD : va_D A [(aR, .inr (4, [.int (nI bw), .ref aRt, .ref aRz, .ref aRo, .ref aRd, .ref aRl, .int (nI (rn + 1)), .int (nI rl)])), (aRt, .inl (cA, M, .inl (fun j => zz_o ((zz_up tb rn b9) j)))), (aRz, .inl (cA, M, .inl (fun j => zz_o (zr j)))), (aRo, .inl (cA, M, .inl (fun j => zz_o (on j)))), (aRd, .inl (cA, M, .inl (fun j => nI ((zz_up dp rn d9) j)))), (aRl, .inl (cA, M, .inl (fun j => nI ((zz_up li rn 0) j))))] := hD
  refine lv_iload_n hx hb d_R_addNode_36 rfl (lv_at hl 0 rfl) ?_
  have hP : va_P D vwCl [(aR, .inr (4, [.int (nI bw), .ref aRt, .ref aRz, .ref aRo, .ref aRd, .ref aRl, .int (nI (rn + 1)), .int (nI rl)])), (aRt, .inl (cA, M, .inl (fun j => zz_o ((zz_up tb rn b9) j)))), (aRz, .inl (cA, M, .inl (fun j => zz_o (zr j)))), (aRo, .inl (cA, M, .inl (fun j => zz_o (on j)))), (aRd, .inl (cA, M, .inl (fun j => nI ((zz_up dp rn d9) j)))), (aRl, .inl (cA, M, .inl (fun j => nI ((zz_up li rn 0) j))))] H := hP
  have hD : va_D A [(aR, .inr (4, [.int (nI bw), .ref aRt, .ref aRz, .ref aRo, .ref aRd, .ref aRl, .int (nI (rn + 1)), .int (nI rl)])), (aRt, .inl (cA, M, .inl (fun j => zz_o ((zz_up tb rn b9) j)))), (aRz, .inl (cA, M, .inl (fun j => zz_o (zr j)))), (aRo, .inl (cA, M, .inl (fun j => zz_o (on j)))), (aRd, .inl (cA, M, .inl (fun j => nI ((zz_up dp rn d9) j)))), (aRl, .inl (cA, M, .inl (fun j => nI ((zz_up li rn 0) j))))] := hD
  exact W.iret (v := nI rn) hx hb hr (fun t ht hW => ⟨⟨_, (), rfl, rfl, by rw [ht]; exact hP, va_K.moved hW.alike hK, hD⟩, hS.F ht⟩) hS.2.2 d_R_addNode_37

set_option maxHeartbeats 4000000 in
set_option maxRecDepth 100000 in
theorem c_R_addLeaf (l : Launch) (D : va_G) (cA : ClassId) (aR : Nat) (aRt : Nat) (aRz : Nat) (aRo : Nat) (aRd : Nat) (aRl : Nat) (bw : Nat) (M : Nat) (tb : Nat → Nat) (zr : Nat → Nat) (on : Nat → Nat) (dp : Nat → Nat) (li : Nat → Nat) (rn : Nat) (rl : Nat) (l9 : Nat) (d9 : Nat) (sz : Nat) (hM : M ≤ 511) (hrn : rn < M) : Met l y_R_addLeaf ws_R_addLeaf ({ frames := 1, cells := 0, slots := 0, locals := 23 }) (va_Pc [.ref aR, .int (nI l9), .int (nI d9)] (zz_preW D vwCl [(cA, .int)] [(aR, .inr (4, [.int (nI bw), .ref aRt, .ref aRz, .ref aRo, .ref aRd, .ref aRl, .int (nI rn), .int (nI rl)])), (aRt, .inl (cA, M, .inl (fun j => zz_o (tb j)))), (aRz, .inl (cA, M, .inl (fun j => zz_o (zr j)))), (aRo, .inl (cA, M, .inl (fun j => zz_o (on j)))), (aRd, .inl (cA, M, .inl (fun j => nI (dp j)))), (aRl, .inl (cA, M, .inl (fun j => nI (li j))))] sz zz_nx)) (va_Qi (fun (z : Int32) (_ : Unit) => z = nI rn) (fun _ => zz_post D vwCl [(cA, .int)] (va_A [(aR, .inr (4, [.int (nI bw), .ref aRt, .ref aRz, .ref aRo, .ref aRd, .ref aRl, .int (nI rn), .int (nI rl)])), (aRt, .inl (cA, M, .inl (fun j => zz_o (tb j)))), (aRz, .inl (cA, M, .inl (fun j => zz_o (zr j)))), (aRo, .inl (cA, M, .inl (fun j => zz_o (on j)))), (aRd, .inl (cA, M, .inl (fun j => nI (dp j)))), (aRl, .inl (cA, M, .inl (fun j => nI (li j))))] sz) [(aR, .inr (4, [.int (nI bw), .ref aRt, .ref aRz, .ref aRo, .ref aRd, .ref aRl, .int (nI (rn + 1)), .int (nI (rl + 1))])), (aRt, .inl (cA, M, .inl (fun j => zz_o ((zz_up tb rn 0) j)))), (aRz, .inl (cA, M, .inl (fun j => zz_o ((zz_up zr rn 0) j)))), (aRo, .inl (cA, M, .inl (fun j => zz_o ((zz_up on rn 0) j)))), (aRd, .inl (cA, M, .inl (fun j => nI ((zz_up dp rn d9) j)))), (aRl, .inl (cA, M, .inl (fun j => nI ((zz_up li rn l9) j))))]) (va_A [(aR, .inr (4, [.int (nI bw), .ref aRt, .ref aRz, .ref aRo, .ref aRd, .ref aRl, .int (nI rn), .int (nI rl)])), (aRt, .inl (cA, M, .inl (fun j => zz_o (tb j)))), (aRz, .inl (cA, M, .inl (fun j => zz_o (zr j)))), (aRo, .inl (cA, M, .inl (fun j => zz_o (on j)))), (aRd, .inl (cA, M, .inl (fun j => nI (dp j)))), (aRl, .inl (cA, M, .inl (fun j => nI (li j))))] sz)) 0 0 (va_A [(aR, .inr (4, [.int (nI bw), .ref aRt, .ref aRz, .ref aRo, .ref aRd, .ref aRl, .int (nI rn), .int (nI rl)])), (aRt, .inl (cA, M, .inl (fun j => zz_o (tb j)))), (aRz, .inl (cA, M, .inl (fun j => zz_o (zr j)))), (aRo, .inl (cA, M, .inl (fun j => zz_o (on j)))), (aRd, .inl (cA, M, .inl (fun j => nI (dp j)))), (aRl, .inl (cA, M, .inl (fun j => nI (li j))))] sz) := by
  refine Met.ofW (cc := b_R_addLeaf) (maxL := 4) (ret := (some .int)) (by decide) rfl ?_
  intro p e s m args below meth c s₁ B hml hv
  obtain ⟨rfl, hsz, hP, hK, hD0, hX⟩ := hv
  have hx := B.exec
  have hb := B.bytes
  have hr := B.returns
  have hts := atoms_spec (ws := ws_R_addLeaf) B.pre
  have hown : s.vm.findClass "DecodeTests$Tree" = some m.cls := findClass_of_methodNamed B.named
  have hlocks := B.notSynchronized
  have hT : ∀ w9 ∈ zz_T, w9.before ([.ref aR, .int (nI l9), .int (nI d9)] : List Value).toArray s = true := fun w9 h => hts w9 (List.mem_cons_of_mem _ h)
  subst hsz
  have hD := hD0.self (sz := s.heap.size)
  generalize hAe : va_A [(aR, .inr (4, [.int (nI bw), .ref aRt, .ref aRz, .ref aRo, .ref aRd, .ref aRl, .int (nI rn), .int (nI rl)])), (aRt, .inl (cA, M, .inl (fun j => zz_o (tb j)))), (aRz, .inl (cA, M, .inl (fun j => zz_o (zr j)))), (aRo, .inl (cA, M, .inl (fun j => zz_o (on j)))), (aRd, .inl (cA, M, .inl (fun j => nI (dp j)))), (aRl, .inl (cA, M, .inl (fun j => nI (li j))))] s.heap.size = A at hD hX ⊢
  have hA : ∀ q : Nat, s.heap.size ≤ q → A q := fun q h => by rw [← hAe]; exact Or.inr h
  have hS : va_S A s.heap s.heap [] := va_S.rf
  have hl := lv_entry ([.ref aR, .int (nI l9), .int (nI d9)]) (n := 4) (Nat.le_of_ble_eq_true rfl)
  rw [lg_entry_eq]
  generalize (lg_sl ([.ref aR, .int (nI l9), .int (nI d9)]) ++ List.replicate (4 - (lg_sl ([.ref aR, .int (nI l9), .int (nI d9)])).length) Slot.unset).toArray = ls at hl ⊢
  have hl : lv_has ls 4 [(0, .ref aR), (1, .int (nI l9)), (2, .int (nI d9))] := hl
  refine lv_aload_n hx hb d_R_addLeaf_0 rfl (lv_at hl 0 rfl) ?_
  refine lv_iconst (v := -1) hx hb d_R_addLeaf_1 (by decide) ?_
  refine zz_top (y := zz_o 0) (rfl) ?_
  refine lv_iload_n hx hb d_R_addLeaf_2 rfl (lv_at hl 2 rfl) ?_
  refine zz_wVi (As := [.int (zz_o 0), .int (nI d9)]) (rest := []) (r := nI rn) (wc := [(aR, .inr (4, [.int (nI bw), .ref aRt, .ref aRz, .ref aRo, .ref aRd, .ref aRl, .int (nI rn), .int (nI rl)])), (aRt, .inl (cA, M, .inl (fun j => zz_o (tb j)))), (aRz, .inl (cA, M, .inl (fun j => zz_o (zr j)))), (aRo, .inl (cA, M, .inl (fun j => zz_o (on j)))), (aRd, .inl (cA, M, .inl (fun j => nI (dp j)))), (aRl, .inl (cA, M, .inl (fun j => nI (li j))))]) (wr := []) (w1 := [(aR, .inr (4, [.int (nI bw), .ref aRt, .ref aRz, .ref aRo, .ref aRd, .ref aRl, .int (nI (rn + 1)), .int (nI rl)])), (aRt, .inl (cA, M, .inl (fun j => zz_o ((zz_up tb rn 0) j)))), (aRz, .inl (cA, M, .inl (fun j => zz_o (zr j)))), (aRo, .inl (cA, M, .inl (fun j => zz_o (on j)))), (aRd, .inl (cA, M, .inl (fun j => nI ((zz_up dp rn d9) j)))), (aRl, .inl (cA, M, .inl (fun j => nI ((zz_up li rn 0) j))))]) ⟨hx, hb, hml, hown, hts⟩ (c_R_addNode l _ _ aR aRt aRz aRo aRd aRl bw M tb zr on dp li rn rl 0 d9 _ (by omega) (by omega)) (cwV 2 hts g_R_addLeaf_62 rfl rfl rfl k_R_addNode ⟨show 0 + 1 ≤ 1 by omega, show 8 + (4 + 11) + 0 ≤ 23 by omega⟩) (zz_blind_nx) hK hP hD hS hA [0, 1, 2, 3, 4, 5] [] rfl rfl (by decide) (by decide) (by decide) (fun _ _ _ _ => trivial) 4 rfl rfl rfl hl.1 rfl (Nat.le_of_ble_eq_true rfl) d_R_addLeaf_3 ⟨Nat.zero_le _, Nat.zero_le _⟩ (fun H locs hP hD hS => ?_)
  have hP : va_P D vwCl [(aR, .inr (4, [.int (nI bw), .ref aRt, .ref aRz, .ref aRo, .ref aRd, .ref aRl, .int (nI (rn + 1)), .int (nI rl)])), (aRt, .inl (cA, M, .inl (fun j => zz_o ((zz_up tb rn 0) j)))), (aRz, .inl (cA, M, .inl (fun j => zz_o (zr j)))), (aRo, .inl (cA, M, .inl (fun j => zz_o (on j)))), (aRd, .inl (cA, M, .inl (fun j => nI ((zz_up dp rn d9) j)))), (aRl, .inl (cA, M, .inl (fun j => nI ((zz_up li rn 0) j))))] H := hP.sub [0, 1, 2, 3, 4, 5] rfl
  have hD : va_D A [(aR, .inr (4, [.int (nI bw), .ref aRt, .ref aRz, .ref aRo, .ref aRd, .ref aRl, .int (nI (rn + 1)), .int (nI rl)])), (aRt, .inl (cA, M, .inl (fun j => zz_o ((zz_up tb rn 0) j)))), (aRz, .inl (cA, M, .inl (fun j => zz_o (zr j)))), (aRo, .inl (cA, M, .inl (fun j => zz_o (on j)))), (aRd, .inl (cA, M, .inl (fun j => nI ((zz_up dp rn d9) j)))), (aRl, .inl (cA, M, .inl (fun j => nI ((zz_up li rn 0) j))))] := hD.sub [0, 1, 2, 3, 4, 5] (by decide) rfl
  refine lv_istore_n (lv' := [(3, .int (nI rn)), (0, .ref aR), (1, .int (nI l9)), (2, .int (nI d9))]) hx hb d_R_addLeaf_6 rfl hl (by decide) rfl (fun ls hl => ?_)
  refine lv_aload_n hx hb d_R_addLeaf_7 rfl (lv_at hl 1 rfl) ?_
  refine va_get (D := D) (ci := 4) (v := .ref aRz) (C := "DecodeTests$Tree") (T := F_R) (N := 8) hx hb hT hin_R hown hK hP 0 rfl rfl 2 (by decide) (hT _ q_f_R_19) (fun _ h9 => h9) rfl d_R_addLeaf_8 ?_
  refine lv_iload_n hx hb d_R_addLeaf_11 rfl (lv_at hl 0 rfl) ?_
  refine lv_iconst (v := -1) hx hb d_R_addLeaf_12 (by decide) ?_
  refine zz_top (y := zz_o 0) (rfl) ?_
  refine zz_iastO hx hb hK hP hD hS 2 0 rfl rfl (j := rn) (by omega) (by omega) d_R_addLeaf_13 (fun H locs hP hD hS => ?_)
  have hP : va_P D vwCl [(aR, .inr (4, [.int (nI bw), .ref aRt, .ref aRz, .ref aRo, .ref aRd, .ref aRl, .int (nI (rn + 1)), .int (nI rl)])), (aRt, .inl (cA, M, .inl (fun j => zz_o ((zz_up tb rn 0) j)))), (aRz, .inl (cA, M, .inl (fun j => zz_o ((zz_up zr rn 0) j)))), (aRo, .inl (cA, M, .inl (fun j => zz_o (on j)))), (aRd, .inl (cA, M, .inl (fun j => nI ((zz_up dp rn d9) j)))), (aRl, .inl (cA, M, .inl (fun j => nI ((zz_up li rn 0) j))))] H := hP
  have hD : va_D A [(aR, .inr (4, [.int (nI bw), .ref aRt, .ref aRz, .ref aRo, .ref aRd, .ref aRl, .int (nI (rn + 1)), .int (nI rl)])), (aRt, .inl (cA, M, .inl (fun j => zz_o ((zz_up tb rn 0) j)))), (aRz, .inl (cA, M, .inl (fun j => zz_o ((zz_up zr rn 0) j)))), (aRo, .inl (cA, M, .inl (fun j => zz_o (on j)))), (aRd, .inl (cA, M, .inl (fun j => nI ((zz_up dp rn d9) j)))), (aRl, .inl (cA, M, .inl (fun j => nI ((zz_up li rn 0) j))))] := hD
  refine lv_aload_n hx hb d_R_addLeaf_14 rfl (lv_at hl 1 rfl) ?_
  refine va_get (D := D) (ci := 4) (v := .ref aRo) (C := "DecodeTests$Tree") (T := F_R) (N := 8) hx hb hT hin_R hown hK hP 0 rfl rfl 3 (by decide) (hT _ q_f_R_22) (fun _ h9 => h9) rfl d_R_addLeaf_15 ?_
  refine lv_iload_n hx hb d_R_addLeaf_18 rfl (lv_at hl 0 rfl) ?_
  refine lv_iconst (v := -1) hx hb d_R_addLeaf_19 (by decide) ?_
  refine zz_top (y := zz_o 0) (rfl) ?_
  refine zz_iastO hx hb hK hP hD hS 3 0 rfl rfl (j := rn) (by omega) (by omega) d_R_addLeaf_20 (fun H locs hP hD hS => ?_)
  have hP : va_P D vwCl [(aR, .inr (4, [.int (nI bw), .ref aRt, .ref aRz, .ref aRo, .ref aRd, .ref aRl, .int (nI (rn + 1)), .int (nI rl)])), (aRt, .inl (cA, M, .inl (fun j => zz_o ((zz_up tb rn 0) j)))), (aRz, .inl (cA, M, .inl (fun j => zz_o ((zz_up zr rn 0) j)))), (aRo, .inl (cA, M, .inl (fun j => zz_o ((zz_up on rn 0) j)))), (aRd, .inl (cA, M, .inl (fun j => nI ((zz_up dp rn d9) j)))), (aRl, .inl (cA, M, .inl (fun j => nI ((zz_up li rn 0) j))))] H := hP
  have hD : va_D A [(aR, .inr (4, [.int (nI bw), .ref aRt, .ref aRz, .ref aRo, .ref aRd, .ref aRl, .int (nI (rn + 1)), .int (nI rl)])), (aRt, .inl (cA, M, .inl (fun j => zz_o ((zz_up tb rn 0) j)))), (aRz, .inl (cA, M, .inl (fun j => zz_o ((zz_up zr rn 0) j)))), (aRo, .inl (cA, M, .inl (fun j => zz_o ((zz_up on rn 0) j)))), (aRd, .inl (cA, M, .inl (fun j => nI ((zz_up dp rn d9) j)))), (aRl, .inl (cA, M, .inl (fun j => nI ((zz_up li rn 0) j))))] := hD
  refine lv_aload_n hx hb d_R_addLeaf_21 rfl (lv_at hl 1 rfl) ?_
  refine va_get (D := D) (ci := 4) (v := .ref aRl) (C := "DecodeTests$Tree") (T := F_R) (N := 8) hx hb hT hin_R hown hK hP 0 rfl rfl 5 (by decide) (hT _ q_f_R_28) (fun _ h9 => h9) rfl d_R_addLeaf_22 ?_
  refine lv_iload_n hx hb d_R_addLeaf_25 rfl (lv_at hl 0 rfl) ?_
  refine lv_iload_n hx hb d_R_addLeaf_26 rfl (lv_at hl 2 rfl) ?_
  refine zz_iastN hx hb hK hP hD hS 5 0 rfl rfl (j := rn) (by omega) (by omega) d_R_addLeaf_27 (fun H locs hP hD hS => ?_)
  have hP : va_P D vwCl [(aR, .inr (4, [.int (nI bw), .ref aRt, .ref aRz, .ref aRo, .ref aRd, .ref aRl, .int (nI (rn + 1)), .int (nI rl)])), (aRt, .inl (cA, M, .inl (fun j => zz_o ((zz_up tb rn 0) j)))), (aRz, .inl (cA, M, .inl (fun j => zz_o ((zz_up zr rn 0) j)))), (aRo, .inl (cA, M, .inl (fun j => zz_o ((zz_up on rn 0) j)))), (aRd, .inl (cA, M, .inl (fun j => nI ((zz_up dp rn d9) j)))), (aRl, .inl (cA, M, .inl (fun j => nI ((zz_up (zz_up li rn 0) rn l9) j))))] H := hP
  have hD : va_D A [(aR, .inr (4, [.int (nI bw), .ref aRt, .ref aRz, .ref aRo, .ref aRd, .ref aRl, .int (nI (rn + 1)), .int (nI rl)])), (aRt, .inl (cA, M, .inl (fun j => zz_o ((zz_up tb rn 0) j)))), (aRz, .inl (cA, M, .inl (fun j => zz_o ((zz_up zr rn 0) j)))), (aRo, .inl (cA, M, .inl (fun j => zz_o ((zz_up on rn 0) j)))), (aRd, .inl (cA, M, .inl (fun j => nI ((zz_up dp rn d9) j)))), (aRl, .inl (cA, M, .inl (fun j => nI ((zz_up (zz_up li rn 0) rn l9) j))))] := hD
  refine lv_aload_n hx hb d_R_addLeaf_28 rfl (lv_at hl 1 rfl) ?_
  refine lv_dup hx hb d_R_addLeaf_29 rfl ?_
  refine va_get (D := D) (ci := 4) (v := .int (nI rl)) (C := "DecodeTests$Tree") (T := F_R) (N := 8) hx hb hT hin_R hown hK hP 0 rfl rfl 7 (by decide) (hT _ q_f_R_34) (fun _ h9 => h9) rfl d_R_addLeaf_30 ?_
  refine lv_iconst (v := nI 1) hx hb d_R_addLeaf_33 (by decide) ?_
  refine lv_iadd hx hb d_R_addLeaf_34 ?_
  refine zz_top (y := nI (rl + 1)) (nI_add rl 1) ?_
  refine va_put (D := D) (ci := 4) (v := .int (nI (rl + 1))) (ty := .int) (C := "DecodeTests$Tree") (T := F_R) (N := 8) hx hb hT hin_R ft_R ft_R_ok n_R hown hK hP hD hS 0 rfl rfl 7 (by decide) (hT _ q_f_R_34) (fun _ h9 => h9) rfl (by decide +kernel) rfl rfl (Nat.le_of_ble_eq_true rfl) d_R_addLeaf_35 (fun H locs hP hD hS => ?_)
  have hP : va_P D vwCl [(aR, .inr (4, [.int (nI bw), .ref aRt, .ref aRz, .ref aRo, .ref aRd, .ref aRl, .int (nI (rn + 1)), .int (nI (rl + 1))])), (aRt, .inl (cA, M, .inl (fun j => zz_o ((zz_up tb rn 0) j)))), (aRz, .inl (cA, M, .inl (fun j => zz_o ((zz_up zr rn 0) j)))), (aRo, .inl (cA, M, .inl (fun j => zz_o ((zz_up on rn 0) j)))), (aRd, .inl (cA, M, .inl (fun j => nI ((zz_up dp rn d9) j)))), (aRl, .inl (cA, M, .inl (fun j => nI ((zz_up (zz_up li rn 0) rn l9) j))))] H := hP
  have hD : va_D A [(aR, .inr (4, [.int (nI bw), .ref aRt, .ref aRz, .ref aRo, .ref aRd, .ref aRl, .int (nI (rn + 1)), .int (nI (rl + 1))])), (aRt, .inl (cA, M, .inl (fun j => zz_o ((zz_up tb rn 0) j)))), (aRz, .inl (cA, M, .inl (fun j => zz_o ((zz_up zr rn 0) j)))), (aRo, .inl (cA, M, .inl (fun j => zz_o ((zz_up on rn 0) j)))), (aRd, .inl (cA, M, .inl (fun j => nI ((zz_up dp rn d9) j)))), (aRl, .inl (cA, M, .inl (fun j => nI ((zz_up (zz_up li rn 0) rn l9) j))))] := hD
  refine lv_iload_n hx hb d_R_addLeaf_38 rfl (lv_at hl 0 rfl) ?_
  have hP : va_P D vwCl [(aR, .inr (4, [.int (nI bw), .ref aRt, .ref aRz, .ref aRo, .ref aRd, .ref aRl, .int (nI (rn + 1)), .int (nI (rl + 1))])), (aRt, .inl (cA, M, .inl (fun j => zz_o ((zz_up tb rn 0) j)))), (aRz, .inl (cA, M, .inl (fun j => zz_o ((zz_up zr rn 0) j)))), (aRo, .inl (cA, M, .inl (fun j => zz_o ((zz_up on rn 0) j)))), (aRd, .inl (cA, M, .inl (fun j => nI ((zz_up dp rn d9) j)))), (aRl, .inl (cA, M, .inl (fun j => nI ((zz_up li rn l9) j))))] H := by rw [zz_up_up] at hP; exact hP
  have hD : va_D A [(aR, .inr (4, [.int (nI bw), .ref aRt, .ref aRz, .ref aRo, .ref aRd, .ref aRl, .int (nI (rn + 1)), .int (nI (rl + 1))])), (aRt, .inl (cA, M, .inl (fun j => zz_o ((zz_up tb rn 0) j)))), (aRz, .inl (cA, M, .inl (fun j => zz_o ((zz_up zr rn 0) j)))), (aRo, .inl (cA, M, .inl (fun j => zz_o ((zz_up on rn 0) j)))), (aRd, .inl (cA, M, .inl (fun j => nI ((zz_up dp rn d9) j)))), (aRl, .inl (cA, M, .inl (fun j => nI ((zz_up li rn l9) j))))] := by rw [zz_up_up] at hD; exact hD
  exact W.iret (v := nI rn) hx hb hr (fun t ht hW => ⟨⟨_, (), rfl, rfl, by rw [ht]; exact hP, va_K.moved hW.alike hK, hD⟩, hS.F ht⟩) hS.2.2 d_R_addLeaf_39

set_option maxHeartbeats 4000000 in
set_option maxRecDepth 100000 in
theorem c_R_clear (l : Launch) (D : va_G) (cA : ClassId) (aR : Nat) (aRt : Nat) (aRz : Nat) (aRo : Nat) (aRd : Nat) (aRl : Nat) (bw : Nat) (M : Nat) (tb : Nat → Nat) (zr : Nat → Nat) (on : Nat → Nat) (dp : Nat → Nat) (li : Nat → Nat) (rn : Nat) (rl : Nat) (sz : Nat) : Met l y_R_clear ws_R_clear ({ frames := 0, cells := 0, slots := 0, locals := 0 }) (va_Pc [.ref aR] (zz_preW D vwCl [(cA, .int)] [(aR, .inr (4, [.int (nI bw), .ref aRt, .ref aRz, .ref aRo, .ref aRd, .ref aRl, .int (nI rn), .int (nI rl)])), (aRt, .inl (cA, M, .inl (fun j => zz_o (tb j)))), (aRz, .inl (cA, M, .inl (fun j => zz_o (zr j)))), (aRo, .inl (cA, M, .inl (fun j => zz_o (on j)))), (aRd, .inl (cA, M, .inl (fun j => nI (dp j)))), (aRl, .inl (cA, M, .inl (fun j => nI (li j))))] sz zz_nx)) (va_Qv (fun _ : Unit => True) (fun _ => zz_post D vwCl [(cA, .int)] (va_A [(aR, .inr (4, [.int (nI bw), .ref aRt, .ref aRz, .ref aRo, .ref aRd, .ref aRl, .int (nI rn), .int (nI rl)])), (aRt, .inl (cA, M, .inl (fun j => zz_o (tb j)))), (aRz, .inl (cA, M, .inl (fun j => zz_o (zr j)))), (aRo, .inl (cA, M, .inl (fun j => zz_o (on j)))), (aRd, .inl (cA, M, .inl (fun j => nI (dp j)))), (aRl, .inl (cA, M, .inl (fun j => nI (li j))))] sz) [(aR, .inr (4, [.int (nI bw), .ref aRt, .ref aRz, .ref aRo, .ref aRd, .ref aRl, .int (nI 0), .int (nI 0)])), (aRt, .inl (cA, M, .inl (fun j => zz_o (tb j)))), (aRz, .inl (cA, M, .inl (fun j => zz_o (zr j)))), (aRo, .inl (cA, M, .inl (fun j => zz_o (on j)))), (aRd, .inl (cA, M, .inl (fun j => nI (dp j)))), (aRl, .inl (cA, M, .inl (fun j => nI (li j))))]) (va_A [(aR, .inr (4, [.int (nI bw), .ref aRt, .ref aRz, .ref aRo, .ref aRd, .ref aRl, .int (nI rn), .int (nI rl)])), (aRt, .inl (cA, M, .inl (fun j => zz_o (tb j)))), (aRz, .inl (cA, M, .inl (fun j => zz_o (zr j)))), (aRo, .inl (cA, M, .inl (fun j => zz_o (on j)))), (aRd, .inl (cA, M, .inl (fun j => nI (dp j)))), (aRl, .inl (cA, M, .inl (fun j => nI (li j))))] sz)) 0 0 (va_A [(aR, .inr (4, [.int (nI bw), .ref aRt, .ref aRz, .ref aRo, .ref aRd, .ref aRl, .int (nI rn), .int (nI rl)])), (aRt, .inl (cA, M, .inl (fun j => zz_o (tb j)))), (aRz, .inl (cA, M, .inl (fun j => zz_o (zr j)))), (aRo, .inl (cA, M, .inl (fun j => zz_o (on j)))), (aRd, .inl (cA, M, .inl (fun j => nI (dp j)))), (aRl, .inl (cA, M, .inl (fun j => nI (li j))))] sz) := by
  refine Met.ofW (cc := b_R_clear) (maxL := 1) (ret := none) (by decide) rfl ?_
  intro p e s m args below meth c s₁ B hml hv
  obtain ⟨rfl, hsz, hP, hK, hD0, hX⟩ := hv
  have hx := B.exec
  have hb := B.bytes
  have hr := B.returns
  have hts := atoms_spec (ws := ws_R_clear) B.pre
  have hown : s.vm.findClass "DecodeTests$Tree" = some m.cls := findClass_of_methodNamed B.named
  have hlocks := B.notSynchronized
  have hT : ∀ w9 ∈ zz_T, w9.before ([.ref aR] : List Value).toArray s = true := fun w9 h => hts w9 (List.mem_cons_of_mem _ h)
  subst hsz
  have hD := hD0.self (sz := s.heap.size)
  generalize hAe : va_A [(aR, .inr (4, [.int (nI bw), .ref aRt, .ref aRz, .ref aRo, .ref aRd, .ref aRl, .int (nI rn), .int (nI rl)])), (aRt, .inl (cA, M, .inl (fun j => zz_o (tb j)))), (aRz, .inl (cA, M, .inl (fun j => zz_o (zr j)))), (aRo, .inl (cA, M, .inl (fun j => zz_o (on j)))), (aRd, .inl (cA, M, .inl (fun j => nI (dp j)))), (aRl, .inl (cA, M, .inl (fun j => nI (li j))))] s.heap.size = A at hD hX ⊢
  have hA : ∀ q : Nat, s.heap.size ≤ q → A q := fun q h => by rw [← hAe]; exact Or.inr h
  have hS : va_S A s.heap s.heap [] := va_S.rf
  have hl := lv_entry ([.ref aR]) (n := 1) (Nat.le_of_ble_eq_true rfl)
  rw [lg_entry_eq]
  generalize (lg_sl ([.ref aR]) ++ List.replicate (1 - (lg_sl ([.ref aR])).length) Slot.unset).toArray = ls at hl ⊢
  have hl : lv_has ls 1 [(0, .ref aR)] := hl
  refine lv_aload_n hx hb d_R_clear_0 rfl (lv_at hl 0 rfl) ?_
  refine lv_iconst (v := nI 0) hx hb d_R_clear_1 (by decide) ?_
  refine va_put (D := D) (ci := 4) (v := .int (nI 0)) (ty := .int) (C := "DecodeTests$Tree") (T := F_R) (N := 8) hx hb hT hin_R ft_R ft_R_ok n_R hown hK hP hD hS 0 rfl rfl 6 (by decide) (hT _ q_f_R_31) (fun _ h9 => h9) rfl (by decide +kernel) rfl rfl (Nat.le_of_ble_eq_true rfl) d_R_clear_2 (fun H locs hP hD hS => ?_)
  have hP : va_P D vwCl [(aR, .inr (4, [.int (nI bw), .ref aRt, .ref aRz, .ref aRo, .ref aRd, .ref aRl, .int (nI 0), .int (nI rl)])), (aRt, .inl (cA, M, .inl (fun j => zz_o (tb j)))), (aRz, .inl (cA, M, .inl (fun j => zz_o (zr j)))), (aRo, .inl (cA, M, .inl (fun j => zz_o (on j)))), (aRd, .inl (cA, M, .inl (fun j => nI (dp j)))), (aRl, .inl (cA, M, .inl (fun j => nI (li j))))] H := hP
  have hD : va_D A [(aR, .inr (4, [.int (nI bw), .ref aRt, .ref aRz, .ref aRo, .ref aRd, .ref aRl, .int (nI 0), .int (nI rl)])), (aRt, .inl (cA, M, .inl (fun j => zz_o (tb j)))), (aRz, .inl (cA, M, .inl (fun j => zz_o (zr j)))), (aRo, .inl (cA, M, .inl (fun j => zz_o (on j)))), (aRd, .inl (cA, M, .inl (fun j => nI (dp j)))), (aRl, .inl (cA, M, .inl (fun j => nI (li j))))] := hD
  refine lv_aload_n hx hb d_R_clear_5 rfl (lv_at hl 0 rfl) ?_
  refine lv_iconst (v := nI 0) hx hb d_R_clear_6 (by decide) ?_
  refine va_put (D := D) (ci := 4) (v := .int (nI 0)) (ty := .int) (C := "DecodeTests$Tree") (T := F_R) (N := 8) hx hb hT hin_R ft_R ft_R_ok n_R hown hK hP hD hS 0 rfl rfl 7 (by decide) (hT _ q_f_R_34) (fun _ h9 => h9) rfl (by decide +kernel) rfl rfl (Nat.le_of_ble_eq_true rfl) d_R_clear_7 (fun H locs hP hD hS => ?_)
  have hP : va_P D vwCl [(aR, .inr (4, [.int (nI bw), .ref aRt, .ref aRz, .ref aRo, .ref aRd, .ref aRl, .int (nI 0), .int (nI 0)])), (aRt, .inl (cA, M, .inl (fun j => zz_o (tb j)))), (aRz, .inl (cA, M, .inl (fun j => zz_o (zr j)))), (aRo, .inl (cA, M, .inl (fun j => zz_o (on j)))), (aRd, .inl (cA, M, .inl (fun j => nI (dp j)))), (aRl, .inl (cA, M, .inl (fun j => nI (li j))))] H := hP
  have hD : va_D A [(aR, .inr (4, [.int (nI bw), .ref aRt, .ref aRz, .ref aRo, .ref aRd, .ref aRl, .int (nI 0), .int (nI 0)])), (aRt, .inl (cA, M, .inl (fun j => zz_o (tb j)))), (aRz, .inl (cA, M, .inl (fun j => zz_o (zr j)))), (aRo, .inl (cA, M, .inl (fun j => zz_o (on j)))), (aRd, .inl (cA, M, .inl (fun j => nI (dp j)))), (aRl, .inl (cA, M, .inl (fun j => nI (li j))))] := hD
  have hP : va_P D vwCl [(aR, .inr (4, [.int (nI bw), .ref aRt, .ref aRz, .ref aRo, .ref aRd, .ref aRl, .int (nI 0), .int (nI 0)])), (aRt, .inl (cA, M, .inl (fun j => zz_o (tb j)))), (aRz, .inl (cA, M, .inl (fun j => zz_o (zr j)))), (aRo, .inl (cA, M, .inl (fun j => zz_o (on j)))), (aRd, .inl (cA, M, .inl (fun j => nI (dp j)))), (aRl, .inl (cA, M, .inl (fun j => nI (li j))))] H := hP
  have hD : va_D A [(aR, .inr (4, [.int (nI bw), .ref aRt, .ref aRz, .ref aRo, .ref aRd, .ref aRl, .int (nI 0), .int (nI 0)])), (aRt, .inl (cA, M, .inl (fun j => zz_o (tb j)))), (aRz, .inl (cA, M, .inl (fun j => zz_o (zr j)))), (aRo, .inl (cA, M, .inl (fun j => zz_o (on j)))), (aRd, .inl (cA, M, .inl (fun j => nI (dp j)))), (aRl, .inl (cA, M, .inl (fun j => nI (li j))))] := hD
  exact W.vret hx hb hr (fun t ht hW => ⟨⟨(), rfl, trivial, by rw [ht]; exact hP, va_K.moved hW.alike hK, hD⟩, hS.F ht⟩) hS.2.2 d_R_clear_10
