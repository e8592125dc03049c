set_option maxHeartbeats 4000000 in
set_option maxRecDepth 100000 in
theorem c_E_init (l : Launch) (D : va_G) (cA : ClassId) (aE : Nat) (bw : Nat) (sz : Nat) (hW : bw ≤ 8) : Met l y_E_init ws_E_init ({ frames := 1, cells := 5, slots := 312, locals := 19 }) (va_Pc [.ref aE, .int (nI bw)] (zz_preW D vwCl [(cA, .int)] [(aE, .inr (1, [.int (nI 0), .null, .null, .null, .null, .null, .int (nI 0), .int (nI 0)]))] sz zz_nx)) (va_Qv (fun _ : Nat × Nat × Nat × Nat × Nat => True) (fun u => zz_post D vwCl [(cA, .int)] (va_A [(aE, .inr (1, [.int (nI 0), .null, .null, .null, .null, .null, .int (nI 0), .int (nI 0)]))] sz) ((fun u : Nat × Nat × Nat × Nat × Nat => [(aE, .inr (1, [.int (nI (1 * 2 ^ bw)), .ref u.1, .ref u.2.1, .ref u.2.2.1, .ref u.2.2.2.1, .ref u.2.2.2.2, .int (nI 0), .int (nI 0)])), (u.1, .inl (cA, 14, .inl (fun j => nI ((fun _ => 0) j)))), (u.2.1, .inl (cA, 14, .inl (fun j => nI ((fun _ => 0) j)))), (u.2.2.1, .inl (cA, 14, .inl (fun j => nI ((fun _ => 0) j)))), (u.2.2.2.1, .inl (cA, 14, .inl (fun j => zz_o ((fun _ => 1) j)))), (u.2.2.2.2, .inl (cA, (1 * 2 ^ bw), .inl (fun j => nI ((fun _ => 0) j))))]) u)) (va_A [(aE, .inr (1, [.int (nI 0), .null, .null, .null, .null, .null, .int (nI 0), .int (nI 0)]))] sz)) 5 312 (va_A [(aE, .inr (1, [.int (nI 0), .null, .null, .null, .null, .null, .int (nI 0), .int (nI 0)]))] sz) := by
  refine Met.ofW (cc := b_E_init) (maxL := 2) (ret := none) (by decide) rfl ?_
  intro p e s m args below meth c s₁ B hml hv
  obtain ⟨rfl, hsz, hP, hK, hD0, hX⟩ := hv
  have hx := B.exec
  have hb := B.bytes
  have hr := B.returns
  have hts := atoms_spec (ws := ws_E_init) B.pre
  have hown : s.vm.findClass "DecodeTests$Encodings" = some m.cls := findClass_of_methodNamed B.named
  have hlocks := B.notSynchronized
  have hin : meth.name = "<init>" := (name_of_methodNamed B.named B.method).1
  have hT : ∀ w9 ∈ zz_T, w9.before ([.ref aE, .int (nI bw)] : List Value).toArray s = true := fun w9 h => hts w9 (List.mem_cons_of_mem _ h)
  subst hsz
  have hD := hD0.self (sz := s.heap.size)
  generalize hAe : va_A [(aE, .inr (1, [.int (nI 0), .null, .null, .null, .null, .null, .int (nI 0), .int (nI 0)]))] s.heap.size = A at hD hX ⊢
  have hA : ∀ q : Nat, s.heap.size ≤ q → A q := fun q h => by rw [← hAe]; exact Or.inr h
  have hS : va_S A s.heap s.heap [] := va_S.rf
  have hl := lv_entry ([.ref aE, .int (nI bw)]) (n := 2) (Nat.le_of_ble_eq_true rfl)
  rw [lg_entry_eq]
  generalize (lg_sl ([.ref aE, .int (nI bw)]) ++ List.replicate (2 - (lg_sl ([.ref aE, .int (nI bw)])).length) Slot.unset).toArray = ls at hl ⊢
  have hl : lv_has ls 2 [(0, .ref aE), (1, .int (nI bw))] := hl
  have p2 := zz_2le (a := 1) hW
  refine lv_aload_n hx hb d_E_init_0 rfl (lv_at hl 0 rfl) ?_
  refine W.objInit hx hb hown (hT _ q_m_E_3) (hT _ q_oi_i) (hT _ q_oi_c) rfl (by rw [hml]; exact hl.1) rfl d_E_init_1 (Nat.le_of_ble_eq_true rfl) (Nat.le_of_ble_eq_true rfl) ?_
  refine W.eq (g2 := F0 m 4 ls []) rfl ?_
  refine lv_aload_n hx hb d_E_init_4 rfl (lv_at hl 0 rfl) ?_
  refine lv_bipush (v := nI 14) hx hb d_E_init_5 (by decide) ?_
  refine zz_newi hx hb (hT _ q_arr) hK hP hD hS hA (n := 14) (by omega) (show 0 + 1 ≤ 5 by omega) (show 0 + 14 ≤ 312 by omega) d_E_init_7 (fun q_1 H hP hD hS => ?_)
  have hP : va_P D vwCl [(aE, .inr (1, [.int (nI 0), .null, .null, .null, .null, .null, .int (nI 0), .int (nI 0)])), (q_1, .inl (cA, 14, .inl (fun j => nI ((fun _ => 0) j))))] H := hP
  have hD : va_D A [(aE, .inr (1, [.int (nI 0), .null, .null, .null, .null, .null, .int (nI 0), .int (nI 0)])), (q_1, .inl (cA, 14, .inl (fun j => nI ((fun _ => 0) j))))] := hD
  refine va_putF (D := D) (ci := 1) (v := .ref q_1) (ty := .array .int) (C := "DecodeTests$Encodings") (T := F_E) (N := 8) hx hb hT hin_E ft_E ft_E_ok n_E hown hK hP hD hS 0 rfl rfl 1 (by decide) (hT _ q_f_E_9) (fun _ h9 => h9) rfl hin rfl (by decide +kernel) rfl rfl (Nat.le_of_ble_eq_true rfl) d_E_init_9 (fun H locs hP hD hS => ?_)
  have hP : va_P D vwCl [(aE, .inr (1, [.int (nI 0), .ref q_1, .null, .null, .null, .null, .int (nI 0), .int (nI 0)])), (q_1, .inl (cA, 14, .inl (fun j => nI ((fun _ => 0) j))))] H := hP
  have hD : va_D A [(aE, .inr (1, [.int (nI 0), .ref q_1, .null, .null, .null, .null, .int (nI 0), .int (nI 0)])), (q_1, .inl (cA, 14, .inl (fun j => nI ((fun _ => 0) j))))] := hD
  refine lv_aload_n hx hb d_E_init_12 rfl (lv_at hl 0 rfl) ?_
  refine lv_bipush (v := nI 14) hx hb d_E_init_13 (by decide) ?_
  refine zz_newi hx hb (hT _ q_arr) hK hP hD hS hA (n := 14) (by omega) (show 0 + 1 + 1 ≤ 5 by omega) (show 0 + 14 + 14 ≤ 312 by omega) d_E_init_15 (fun q_2 H hP hD hS => ?_)
  have hP : va_P D vwCl [(aE, .inr (1, [.int (nI 0), .ref q_1, .null, .null, .null, .null, .int (nI 0), .int (nI 0)])), (q_1, .inl (cA, 14, .inl (fun j => nI ((fun _ => 0) j)))), (q_2, .inl (cA, 14, .inl (fun j => nI ((fun _ => 0) j))))] H := hP
  have hD : va_D A [(aE, .inr (1, [.int (nI 0), .ref q_1, .null, .null, .null, .null, .int (nI 0), .int (nI 0)])), (q_1, .inl (cA, 14, .inl (fun j => nI ((fun _ => 0) j)))), (q_2, .inl (cA, 14, .inl (fun j => nI ((fun _ => 0) j))))] := hD
  refine va_putF (D := D) (ci := 1) (v := .ref q_2) (ty := .array .int) (C := "DecodeTests$Encodings") (T := F_E) (N := 8) hx hb hT hin_E ft_E ft_E_ok n_E hown hK hP hD hS 0 rfl rfl 2 (by decide) (hT _ q_f_E_15) (fun _ h9 => h9) rfl hin rfl (by decide +kernel) rfl rfl (Nat.le_of_ble_eq_true rfl) d_E_init_17 (fun H locs hP hD hS => ?_)
  have hP : va_P D vwCl [(aE, .inr (1, [.int (nI 0), .ref q_1, .ref q_2, .null, .null, .null, .int (nI 0), .int (nI 0)])), (q_1, .inl (cA, 14, .inl (fun j => nI ((fun _ => 0) j)))), (q_2, .inl (cA, 14, .inl (fun j => nI ((fun _ => 0) j))))] H := hP
  have hD : va_D A [(aE, .inr (1, [.int (nI 0), .ref q_1, .ref q_2, .null, .null, .null, .int (nI 0), .int (nI 0)])), (q_1, .inl (cA, 14, .inl (fun j => nI ((fun _ => 0) j)))), (q_2, .inl (cA, 14, .inl (fun j => nI ((fun _ => 0) j))))] := hD
  refine lv_aload_n hx hb d_E_init_20 rfl (lv_at hl 0 rfl) ?_
  refine lv_bipush (v := nI 14) hx hb d_E_init_21 (by decide) ?_
  refine zz_newi hx hb (hT _ q_arr) hK hP hD hS hA (n := 14) (by omega) (show 0 + 1 + 1 + 1 ≤ 5 by omega) (show 0 + 14 + 14 + 14 ≤ 312 by omega) d_E_init_23 (fun q_3 H hP hD hS => ?_)
  have hP : va_P D vwCl [(aE, .inr (1, [.int (nI 0), .ref q_1, .ref q_2, .null, .null, .null, .int (nI 0), .int (nI 0)])), (q_1, .inl (cA, 14, .inl (fun j => nI ((fun _ => 0) j)))), (q_2, .inl (cA, 14, .inl (fun j => nI ((fun _ => 0) j)))), (q_3, .inl (cA, 14, .inl (fun j => nI ((fun _ => 0) j))))] H := hP
  have hD : va_D A [(aE, .inr (1, [.int (nI 0), .ref q_1, .ref q_2, .null, .null, .null, .int (nI 0), .int (nI 0)])), (q_1, .inl (cA, 14, .inl (fun j => nI ((fun _ => 0) j)))), (q_2, .inl (cA, 14, .inl (fun j => nI ((fun _ => 0) j)))), (q_3, .inl (cA, 14, .inl (fun j => nI ((fun _ => 0) j))))] := hD
  refine va_putF (D := D) (ci := 1) (v := .ref q_3) (ty := .array .int) (C := "DecodeTests$Encodings") (T := F_E) (N := 8) hx hb hT hin_E ft_E ft_E_ok n_E hown hK hP hD hS 0 rfl rfl 3 (by decide) (hT _ q_f_E_18) (fun _ h9 => h9) rfl hin rfl (by decide +kernel) rfl rfl (Nat.le_of_ble_eq_true rfl) d_E_init_25 (fun H locs hP hD hS => ?_)
  have hP : va_P D vwCl [(aE, .inr (1, [.int (nI 0), .ref q_1, .ref q_2, .ref q_3, .null, .null, .int (nI 0), .int (nI 0)])), (q_1, .inl (cA, 14, .inl (fun j => nI ((fun _ => 0) j)))), (q_2, .inl (cA, 14, .inl (fun j => nI ((fun _ => 0) j)))), (q_3, .inl (cA, 14, .inl (fun j => nI ((fun _ => 0) j))))] H := hP
  have hD : va_D A [(aE, .inr (1, [.int (nI 0), .ref q_1, .ref q_2, .ref q_3, .null, .null, .int (nI 0), .int (nI 0)])), (q_1, .inl (cA, 14, .inl (fun j => nI ((fun _ => 0) j)))), (q_2, .inl (cA, 14, .inl (fun j => nI ((fun _ => 0) j)))), (q_3, .inl (cA, 14, .inl (fun j => nI ((fun _ => 0) j))))] := hD
  refine lv_aload_n hx hb d_E_init_28 rfl (lv_at hl 0 rfl) ?_
  refine lv_bipush (v := nI 14) hx hb d_E_init_29 (by decide) ?_
  refine zz_newi hx hb (hT _ q_arr) hK hP hD hS hA (n := 14) (by omega) (show 0 + 1 + 1 + 1 + 1 ≤ 5 by omega) (show 0 + 14 + 14 + 14 + 14 ≤ 312 by omega) d_E_init_31 (fun q_4 H hP hD hS => ?_)
  have hP : va_P D vwCl [(aE, .inr (1, [.int (nI 0), .ref q_1, .ref q_2, .ref q_3, .null, .null, .int (nI 0), .int (nI 0)])), (q_1, .inl (cA, 14, .inl (fun j => nI ((fun _ => 0) j)))), (q_2, .inl (cA, 14, .inl (fun j => nI ((fun _ => 0) j)))), (q_3, .inl (cA, 14, .inl (fun j => nI ((fun _ => 0) j)))), (q_4, .inl (cA, 14, .inl (fun j => nI ((fun _ => 0) j))))] H := hP
  have hD : va_D A [(aE, .inr (1, [.int (nI 0), .ref q_1, .ref q_2, .ref q_3, .null, .null, .int (nI 0), .int (nI 0)])), (q_1, .inl (cA, 14, .inl (fun j => nI ((fun _ => 0) j)))), (q_2, .inl (cA, 14, .inl (fun j => nI ((fun _ => 0) j)))), (q_3, .inl (cA, 14, .inl (fun j => nI ((fun _ => 0) j)))), (q_4, .inl (cA, 14, .inl (fun j => nI ((fun _ => 0) j))))] := hD
  refine va_putF (D := D) (ci := 1) (v := .ref q_4) (ty := .array .int) (C := "DecodeTests$Encodings") (T := F_E) (N := 8) hx hb hT hin_E ft_E ft_E_ok n_E hown hK hP hD hS 0 rfl rfl 4 (by decide) (hT _ q_f_E_21) (fun _ h9 => h9) rfl hin rfl (by decide +kernel) rfl rfl (Nat.le_of_ble_eq_true rfl) d_E_init_33 (fun H locs hP hD hS => ?_)
  have hP : va_P D vwCl [(aE, .inr (1, [.int (nI 0), .ref q_1, .ref q_2, .ref q_3, .ref q_4, .null, .int (nI 0), .int (nI 0)])), (q_1, .inl (cA, 14, .inl (fun j => nI ((fun _ => 0) j)))), (q_2, .inl (cA, 14, .inl (fun j => nI ((fun _ => 0) j)))), (q_3, .inl (cA, 14, .inl (fun j => nI ((fun _ => 0) j)))), (q_4, .inl (cA, 14, .inl (fun j => nI ((fun _ => 0) j))))] H := hP
  have hD : va_D A [(aE, .inr (1, [.int (nI 0), .ref q_1, .ref q_2, .ref q_3, .ref q_4, .null, .int (nI 0), .int (nI 0)])), (q_1, .inl (cA, 14, .inl (fun j => nI ((fun _ => 0) j)))), (q_2, .inl (cA, 14, .inl (fun j => nI ((fun _ => 0) j)))), (q_3, .inl (cA, 14, .inl (fun j => nI ((fun _ => 0) j)))), (q_4, .inl (cA, 14, .inl (fun j => nI ((fun _ => 0) j))))] := hD
  refine lv_aload_n hx hb d_E_init_36 rfl (lv_at hl 0 rfl) ?_
  refine lv_iconst (v := nI 1) hx hb d_E_init_37 (by decide) ?_
  refine lv_iload_n hx hb d_E_init_38 rfl (lv_at hl 1 rfl) ?_
  refine lv_ishl hx hb d_E_init_39 ?_
  refine zz_top (y := nI (1 * 2 ^ bw)) (zz_shl (by omega) (by omega)) ?_
  refine va_putF (D := D) (ci := 1) (v := .int (nI (1 * 2 ^ bw))) (ty := .int) (C := "DecodeTests$Encodings") (T := F_E) (N := 8) hx hb hT hin_E ft_E ft_E_ok n_E hown hK hP hD hS 0 rfl rfl 0 (by decide) (hT _ q_f_E_24) (fun _ h9 => h9) rfl hin rfl (by decide +kernel) rfl rfl (Nat.le_of_ble_eq_true rfl) d_E_init_40 (fun H locs hP hD hS => ?_)
  have hP : va_P D vwCl [(aE, .inr (1, [.int (nI (1 * 2 ^ bw)), .ref q_1, .ref q_2, .ref q_3, .ref q_4, .null, .int (nI 0), .int (nI 0)])), (q_1, .inl (cA, 14, .inl (fun j => nI ((fun _ => 0) j)))), (q_2, .inl (cA, 14, .inl (fun j => nI ((fun _ => 0) j)))), (q_3, .inl (cA, 14, .inl (fun j => nI ((fun _ => 0) j)))), (q_4, .inl (cA, 14, .inl (fun j => nI ((fun _ => 0) j))))] H := hP
  have hD : va_D A [(aE, .inr (1, [.int (nI (1 * 2 ^ bw)), .ref q_1, .ref q_2, .ref q_3, .ref q_4, .null, .int (nI 0), .int (nI 0)])), (q_1, .inl (cA, 14, .inl (fun j => nI ((fun _ => 0) j)))), (q_2, .inl (cA, 14, .inl (fun j => nI ((fun _ => 0) j)))), (q_3, .inl (cA, 14, .inl (fun j => nI ((fun _ => 0) j)))), (q_4, .inl (cA, 14, .inl (fun j => nI ((fun _ => 0) j))))] := hD
  refine lv_aload_n hx hb d_E_init_43 rfl (lv_at hl 0 rfl) ?_
  refine lv_aload_n hx hb d_E_init_44 rfl (lv_at hl 0 rfl) ?_
  refine va_get (D := D) (ci := 1) (v := .int (nI (1 * 2 ^ bw))) (C := "DecodeTests$Encodings") (T := F_E) (N := 8) hx hb hT hin_E hown hK hP 0 rfl rfl 0 (by decide) (hT _ q_f_E_24) (fun _ h9 => h9) rfl d_E_init_45 ?_
  refine zz_newi hx hb (hT _ q_arr) hK hP hD hS hA (n := 1 * 2 ^ bw) (by omega) (show 0 + 1 + 1 + 1 + 1 + 1 ≤ 5 by omega) (show 0 + 14 + 14 + 14 + 14 + (1 * 2 ^ bw) ≤ 312 by omega) d_E_init_48 (fun q_5 H hP hD hS => ?_)
  have hP : va_P D vwCl [(aE, .inr (1, [.int (nI (1 * 2 ^ bw)), .ref q_1, .ref q_2, .ref q_3, .ref q_4, .null, .int (nI 0), .int (nI 0)])), (q_1, .inl (cA, 14, .inl (fun j => nI ((fun _ => 0) j)))), (q_2, .inl (cA, 14, .inl (fun j => nI ((fun _ => 0) j)))), (q_3, .inl (cA, 14, .inl (fun j => nI ((fun _ => 0) j)))), (q_4, .inl (cA, 14, .inl (fun j => nI ((fun _ => 0) j)))), (q_5, .inl (cA, 1 * 2 ^ bw, .inl (fun j => nI ((fun _ => 0) j))))] H := hP
  have hD : va_D A [(aE, .inr (1, [.int (nI (1 * 2 ^ bw)), .ref q_1, .ref q_2, .ref q_3, .ref q_4, .null, .int (nI 0), .int (nI 0)])), (q_1, .inl (cA, 14, .inl (fun j => nI ((fun _ => 0) j)))), (q_2, .inl (cA, 14, .inl (fun j => nI ((fun _ => 0) j)))), (q_3, .inl (cA, 14, .inl (fun j => nI ((fun _ => 0) j)))), (q_4, .inl (cA, 14, .inl (fun j => nI ((fun _ => 0) j)))), (q_5, .inl (cA, 1 * 2 ^ bw, .inl (fun j => nI ((fun _ => 0) j))))] := hD
  refine va_putF (D := D) (ci := 1) (v := .ref q_5) (ty := .array .int) (C := "DecodeTests$Encodings") (T := F_E) (N := 8) hx hb hT hin_E ft_E ft_E_ok n_E hown hK hP hD hS 0 rfl rfl 5 (by decide) (hT _ q_f_E_28) (fun _ h9 => h9) rfl hin rfl (by decide +kernel) rfl rfl (Nat.le_of_ble_eq_true rfl) d_E_init_50 (fun H locs hP hD hS => ?_)
  have hP : va_P D vwCl [(aE, .inr (1, [.int (nI (1 * 2 ^ bw)), .ref q_1, .ref q_2, .ref q_3, .ref q_4, .ref q_5, .int (nI 0), .int (nI 0)])), (q_1, .inl (cA, 14, .inl (fun j => nI ((fun _ => 0) j)))), (q_2, .inl (cA, 14, .inl (fun j => nI ((fun _ => 0) j)))), (q_3, .inl (cA, 14, .inl (fun j => nI ((fun _ => 0) j)))), (q_4, .inl (cA, 14, .inl (fun j => nI ((fun _ => 0) j)))), (q_5, .inl (cA, 1 * 2 ^ bw, .inl (fun j => nI ((fun _ => 0) j))))] H := hP
  have hD : va_D A [(aE, .inr (1, [.int (nI (1 * 2 ^ bw)), .ref q_1, .ref q_2, .ref q_3, .ref q_4, .ref q_5, .int (nI 0), .int (nI 0)])), (q_1, .inl (cA, 14, .inl (fun j => nI ((fun _ => 0) j)))), (q_2, .inl (cA, 14, .inl (fun j => nI ((fun _ => 0) j)))), (q_3, .inl (cA, 14, .inl (fun j => nI ((fun _ => 0) j)))), (q_4, .inl (cA, 14, .inl (fun j => nI ((fun _ => 0) j)))), (q_5, .inl (cA, 1 * 2 ^ bw, .inl (fun j => nI ((fun _ => 0) j))))] := hD
  have hP : va_P D vwCl [(aE, .inr (1, [.int (nI (1 * 2 ^ bw)), .ref q_1, .ref q_2, .ref q_3, .ref q_4, .ref q_5, .int (nI 0), .int (nI 0)])), (q_1, .inl (cA, 14, .inl (fun j => nI ((fun _ => 0) j)))), (q_2, .inl (cA, 14, .inl (fun j => nI ((fun _ => 0) j)))), (q_3, .inl (cA, 14, .inl (fun j => nI ((fun _ => 0) j)))), (q_4, .inl (cA, 14, .inl (fun j => zz_o ((fun _ => 1) j)))), (q_5, .inl (cA, (1 * 2 ^ bw), .inl (fun j => nI ((fun _ => 0) j))))] H := hP.sub [0, 1, 2, 3, 4, 5] rfl
  have hD : va_D A [(aE, .inr (1, [.int (nI (1 * 2 ^ bw)), .ref q_1, .ref q_2, .ref q_3, .ref q_4, .ref q_5, .int (nI 0), .int (nI 0)])), (q_1, .inl (cA, 14, .inl (fun j => nI ((fun _ => 0) j)))), (q_2, .inl (cA, 14, .inl (fun j => nI ((fun _ => 0) j)))), (q_3, .inl (cA, 14, .inl (fun j => nI ((fun _ => 0) j)))), (q_4, .inl (cA, 14, .inl (fun j => zz_o ((fun _ => 1) j)))), (q_5, .inl (cA, (1 * 2 ^ bw), .inl (fun j => nI ((fun _ => 0) j))))] := hD.sub [0, 1, 2, 3, 4, 5] (by decide) rfl
  refine W.widen (k := 5) (n := 312) (by omega) (by omega) ?_
  exact W.vret hx hb hr (fun t ht hW => ⟨⟨(q_1, q_2, q_3, q_4, q_5), rfl, trivial, by rw [ht]; exact hP, va_K.moved hW.alike hK, hD⟩, hS.F ht⟩) hS.2.2 d_E_init_53

set_option maxHeartbeats 4000000 in
set_option maxRecDepth 100000 in
theorem c_K_init (l : Launch) (D : va_G) (cA : ClassId) (aK : Nat) (sz : Nat) : Met l y_K_init ws_K_init ({ frames := 1, cells := 3, slots := 48, locals := 21 }) (va_Pc [.ref aK] (zz_preW D vwCl [(cA, .int)] [(aK, .inr (2, [.null, .null, .null, .int (nI 0)]))] sz zz_nx)) (va_Qv (fun _ : Nat × Nat × Nat => True) (fun u => zz_post D vwCl [(cA, .int)] (va_A [(aK, .inr (2, [.null, .null, .null, .int (nI 0)]))] sz) ((fun u : Nat × Nat × Nat => [(aK, .inr (2, [.ref u.1, .ref u.2.1, .ref u.2.2, .int (nI 0)])), (u.1, .inl (cA, 16, .inl (fun j => zz_o ((zz_clr (fun _ => 1) 16) j)))), (u.2.1, .inl (cA, 16, .inl (fun j => nI ((fun _ => 0) j)))), (u.2.2, .inl (cA, 16, .inl (fun j => zz_o ((fun _ => 1) j))))]) u)) (va_A [(aK, .inr (2, [.null, .null, .null, .int (nI 0)]))] sz)) 3 48 (va_A [(aK, .inr (2, [.null, .null, .null, .int (nI 0)]))] sz) := by
  refine Met.ofW (cc := b_K_init) (maxL := 1) (ret := none) (by decide) rfl ?_
  intro p e s m args below meth c s₁ B hml hv
  obtain ⟨rfl, hsz, hP, hK, hD0, hX⟩ := hv
  have hx := B.exec
  have hb := B.bytes
  have hr := B.returns
  have hts := atoms_spec (ws := ws_K_init) B.pre
  have hown : s.vm.findClass "DecodeTests$Kept" = some m.cls := findClass_of_methodNamed B.named
  have hlocks := B.notSynchronized
  have hin : meth.name = "<init>" := (name_of_methodNamed B.named B.method).1
  have hT : ∀ w9 ∈ zz_T, w9.before ([.ref aK] : List Value).toArray s = true := fun w9 h => hts w9 (List.mem_cons_of_mem _ h)
  subst hsz
  have hD := hD0.self (sz := s.heap.size)
  generalize hAe : va_A [(aK, .inr (2, [.null, .null, .null, .int (nI 0)]))] s.heap.size = A at hD hX ⊢
  have hA : ∀ q : Nat, s.heap.size ≤ q → A q := fun q h => by rw [← hAe]; exact Or.inr h
  have hS : va_S A s.heap s.heap [] := va_S.rf
  have hl := lv_entry ([.ref aK]) (n := 1) (Nat.le_of_ble_eq_true rfl)
  rw [lg_entry_eq]
  generalize (lg_sl ([.ref aK]) ++ List.replicate (1 - (lg_sl ([.ref aK])).length) Slot.unset).toArray = ls at hl ⊢
  have hl : lv_has ls 1 [(0, .ref aK)] := hl
  refine lv_aload_n hx hb d_K_init_0 rfl (lv_at hl 0 rfl) ?_
  refine W.objInit hx hb hown (hT _ q_m_K_3) (hT _ q_oi_i) (hT _ q_oi_c) rfl (by rw [hml]; exact hl.1) rfl d_K_init_1 (Nat.le_of_ble_eq_true rfl) (Nat.le_of_ble_eq_true rfl) ?_
  refine W.eq (g2 := F0 m 4 ls []) rfl ?_
  refine lv_aload_n hx hb d_K_init_4 rfl (lv_at hl 0 rfl) ?_
  refine lv_bipush (v := nI 16) hx hb d_K_init_5 (by decide) ?_
  refine zz_newi hx hb (hT _ q_arr) hK hP hD hS hA (n := 16) (by omega) (show 0 + 1 ≤ 3 by omega) (show 0 + 16 ≤ 48 by omega) d_K_init_7 (fun q_1 H hP hD hS => ?_)
  have hP : va_P D vwCl [(aK, .inr (2, [.null, .null, .null, .int (nI 0)])), (q_1, .inl (cA, 16, .inl (fun j => nI ((fun _ => 0) j))))] H := hP
  have hD : va_D A [(aK, .inr (2, [.null, .null, .null, .int (nI 0)])), (q_1, .inl (cA, 16, .inl (fun j => nI ((fun _ => 0) j))))] := hD
  refine va_putF (D := D) (ci := 2) (v := .ref q_1) (ty := .array .int) (C := "DecodeTests$Kept") (T := F_K) (N := 4) hx hb hT hin_K ft_K ft_K_ok n_K hown hK hP hD hS 0 rfl rfl 0 (by decide) (hT _ q_f_K_9) (fun _ h9 => h9) rfl hin rfl (by decide +kernel) rfl rfl (Nat.le_of_ble_eq_true rfl) d_K_init_9 (fun H locs hP hD hS => ?_)
  have hP : va_P D vwCl [(aK, .inr (2, [.ref q_1, .null, .null, .int (nI 0)])), (q_1, .inl (cA, 16, .inl (fun j => nI ((fun _ => 0) j))))] H := hP
  have hD : va_D A [(aK, .inr (2, [.ref q_1, .null, .null, .int (nI 0)])), (q_1, .inl (cA, 16, .inl (fun j => nI ((fun _ => 0) j))))] := hD
  refine lv_aload_n hx hb d_K_init_12 rfl (lv_at hl 0 rfl) ?_
  refine lv_bipush (v := nI 16) hx hb d_K_init_13 (by decide) ?_
  refine zz_newi hx hb (hT _ q_arr) hK hP hD hS hA (n := 16) (by omega) (show 0 + 1 + 1 ≤ 3 by omega) (show 0 + 16 + 16 ≤ 48 by omega) d_K_init_15 (fun q_2 H hP hD hS => ?_)
  have hP : va_P D vwCl [(aK, .inr (2, [.ref q_1, .null, .null, .int (nI 0)])), (q_1, .inl (cA, 16, .inl (fun j => nI ((fun _ => 0) j)))), (q_2, .inl (cA, 16, .inl (fun j => nI ((fun _ => 0) j))))] H := hP
  have hD : va_D A [(aK, .inr (2, [.ref q_1, .null, .null, .int (nI 0)])), (q_1, .inl (cA, 16, .inl (fun j => nI ((fun _ => 0) j)))), (q_2, .inl (cA, 16, .inl (fun j => nI ((fun _ => 0) j))))] := hD
  refine va_putF (D := D) (ci := 2) (v := .ref q_2) (ty := .array .int) (C := "DecodeTests$Kept") (T := F_K) (N := 4) hx hb hT hin_K ft_K ft_K_ok n_K hown hK hP hD hS 0 rfl rfl 1 (by decide) (hT _ q_f_K_15) (fun _ h9 => h9) rfl hin rfl (by decide +kernel) rfl rfl (Nat.le_of_ble_eq_true rfl) d_K_init_17 (fun H locs hP hD hS => ?_)
  have hP : va_P D vwCl [(aK, .inr (2, [.ref q_1, .ref q_2, .null, .int (nI 0)])), (q_1, .inl (cA, 16, .inl (fun j => nI ((fun _ => 0) j)))), (q_2, .inl (cA, 16, .inl (fun j => nI ((fun _ => 0) j))))] H := hP
  have hD : va_D A [(aK, .inr (2, [.ref q_1, .ref q_2, .null, .int (nI 0)])), (q_1, .inl (cA, 16, .inl (fun j => nI ((fun _ => 0) j)))), (q_2, .inl (cA, 16, .inl (fun j => nI ((fun _ => 0) j))))] := hD
  refine lv_aload_n hx hb d_K_init_20 rfl (lv_at hl 0 rfl) ?_
  refine lv_bipush (v := nI 16) hx hb d_K_init_21 (by decide) ?_
  refine zz_newi hx hb (hT _ q_arr) hK hP hD hS hA (n := 16) (by omega) (show 0 + 1 + 1 + 1 ≤ 3 by omega) (show 0 + 16 + 16 + 16 ≤ 48 by omega) d_K_init_23 (fun q_3 H hP hD hS => ?_)
  have hP : va_P D vwCl [(aK, .inr (2, [.ref q_1, .ref q_2, .null, .int (nI 0)])), (q_1, .inl (cA, 16, .inl (fun j => nI ((fun _ => 0) j)))), (q_2, .inl (cA, 16, .inl (fun j => nI ((fun _ => 0) j)))), (q_3, .inl (cA, 16, .inl (fun j => nI ((fun _ => 0) j))))] H := hP
  have hD : va_D A [(aK, .inr (2, [.ref q_1, .ref q_2, .null, .int (nI 0)])), (q_1, .inl (cA, 16, .inl (fun j => nI ((fun _ => 0) j)))), (q_2, .inl (cA, 16, .inl (fun j => nI ((fun _ => 0) j)))), (q_3, .inl (cA, 16, .inl (fun j => nI ((fun _ => 0) j))))] := hD
  refine va_putF (D := D) (ci := 2) (v := .ref q_3) (ty := .array .int) (C := "DecodeTests$Kept") (T := F_K) (N := 4) hx hb hT hin_K ft_K ft_K_ok n_K hown hK hP hD hS 0 rfl rfl 2 (by decide) (hT _ q_f_K_18) (fun _ h9 => h9) rfl hin rfl (by decide +kernel) rfl rfl (Nat.le_of_ble_eq_true rfl) d_K_init_25 (fun H locs hP hD hS => ?_)
  have hP : va_P D vwCl [(aK, .inr (2, [.ref q_1, .ref q_2, .ref q_3, .int (nI 0)])), (q_1, .inl (cA, 16, .inl (fun j => nI ((fun _ => 0) j)))), (q_2, .inl (cA, 16, .inl (fun j => nI ((fun _ => 0) j)))), (q_3, .inl (cA, 16, .inl (fun j => nI ((fun _ => 0) j))))] H := hP
  have hD : va_D A [(aK, .inr (2, [.ref q_1, .ref q_2, .ref q_3, .int (nI 0)])), (q_1, .inl (cA, 16, .inl (fun j => nI ((fun _ => 0) j)))), (q_2, .inl (cA, 16, .inl (fun j => nI ((fun _ => 0) j)))), (q_3, .inl (cA, 16, .inl (fun j => nI ((fun _ => 0) j))))] := hD
  refine lv_aload_n hx hb d_K_init_28 rfl (lv_at hl 0 rfl) ?_
  have hP : va_P D vwCl [(aK, .inr (2, [.ref q_1, .ref q_2, .ref q_3, .int (nI 0)])), (q_1, .inl (cA, 16, .inl (fun j => zz_o ((fun _ => 1) j)))), (q_2, .inl (cA, 16, .inl (fun j => nI ((fun _ => 0) j)))), (q_3, .inl (cA, 16, .inl (fun j => zz_o ((fun _ => 1) j))))] H := hP
  have hD : va_D A [(aK, .inr (2, [.ref q_1, .ref q_2, .ref q_3, .int (nI 0)])), (q_1, .inl (cA, 16, .inl (fun j => zz_o ((fun _ => 1) j)))), (q_2, .inl (cA, 16, .inl (fun j => nI ((fun _ => 0) j)))), (q_3, .inl (cA, 16, .inl (fun j => zz_o ((fun _ => 1) j))))] := hD
  refine zz_wV (As := []) (rest := []) (wc := [(aK, .inr (2, [.ref q_1, .ref q_2, .ref q_3, .int (nI 0)])), (q_1, .inl (cA, 16, .inl (fun j => zz_o ((fun _ => 1) j)))), (q_2, .inl (cA, 16, .inl (fun j => nI ((fun _ => 0) j)))), (q_3, .inl (cA, 16, .inl (fun j => zz_o ((fun _ => 1) j))))]) (wr := []) (w1 := [(aK, .inr (2, [.ref q_1, .ref q_2, .ref q_3, .int (nI 0)])), (q_1, .inl (cA, 16, .inl (fun j => zz_o ((zz_clr (fun _ => 1) 16) j)))), (q_2, .inl (cA, 16, .inl (fun j => nI ((fun _ => 0) j)))), (q_3, .inl (cA, 16, .inl (fun j => zz_o ((fun _ => 1) j))))]) ⟨hx, hb, hml, hown, hts⟩ (c_K_clear l _ _ aK q_1 q_2 q_3 0 (fun _ => 1) (fun _ => 0) (fun _ => 1) _) (cwV 0 hts g_K_init_21 rfl rfl rfl k_K_clear ⟨show 0 + 1 ≤ 1 by omega, show 8 + (2 + 11) + 0 ≤ 21 by omega⟩) (zz_blind_nx) hK hP hD hS hA [0, 1, 2, 3] [] rfl rfl (by decide) (by decide) (by decide) (fun _ _ _ _ => trivial) 2 rfl rfl rfl hl.1 rfl (Nat.le_of_ble_eq_true rfl) d_K_init_29 ⟨show 0 + 1 + 1 + 1 ≤ 3 by omega, show 0 + 16 + 16 + 16 ≤ 48 by omega⟩ (fun H locs hP hD hS => ?_)
  have hP : va_P D vwCl [(aK, .inr (2, [.ref q_1, .ref q_2, .ref q_3, .int (nI 0)])), (q_1, .inl (cA, 16, .inl (fun j => zz_o ((zz_clr (fun _ => 1) 16) j)))), (q_2, .inl (cA, 16, .inl (fun j => nI ((fun _ => 0) j)))), (q_3, .inl (cA, 16, .inl (fun j => zz_o ((fun _ => 1) j))))] H := hP.sub [0, 1, 2, 3] rfl
  have hD : va_D A [(aK, .inr (2, [.ref q_1, .ref q_2, .ref q_3, .int (nI 0)])), (q_1, .inl (cA, 16, .inl (fun j => zz_o ((zz_clr (fun _ => 1) 16) j)))), (q_2, .inl (cA, 16, .inl (fun j => nI ((fun _ => 0) j)))), (q_3, .inl (cA, 16, .inl (fun j => zz_o ((fun _ => 1) j))))] := hD.sub [0, 1, 2, 3] (by decide) rfl
  have hP : va_P D vwCl [(aK, .inr (2, [.ref q_1, .ref q_2, .ref q_3, .int (nI 0)])), (q_1, .inl (cA, 16, .inl (fun j => zz_o ((zz_clr (fun _ => 1) 16) j)))), (q_2, .inl (cA, 16, .inl (fun j => nI ((fun _ => 0) j)))), (q_3, .inl (cA, 16, .inl (fun j => zz_o ((fun _ => 1) j))))] H := hP.sub [0, 1, 2, 3] rfl
  have hD : va_D A [(aK, .inr (2, [.ref q_1, .ref q_2, .ref q_3, .int (nI 0)])), (q_1, .inl (cA, 16, .inl (fun j => zz_o ((zz_clr (fun _ => 1) 16) j)))), (q_2, .inl (cA, 16, .inl (fun j => nI ((fun _ => 0) j)))), (q_3, .inl (cA, 16, .inl (fun j => zz_o ((fun _ => 1) j))))] := hD.sub [0, 1, 2, 3] (by decide) rfl
  refine W.widen (k := 3) (n := 48) (by omega) (by omega) ?_
  exact W.vret hx hb hr (fun t ht hW => ⟨⟨(q_1, q_2, q_3), rfl, trivial, by rw [ht]; exact hP, va_K.moved hW.alike hK, hD⟩, hS.F ht⟩) hS.2.2 d_K_init_32

set_option maxHeartbeats 4000000 in
set_option maxRecDepth 100000 in
theorem c_W_init (l : Launch) (D : va_G) (cA : ClassId) (aW : Nat) (sz : Nat) : Met l y_W_init ws_W_init ({ frames := 1, cells := 1, slots := 64, locals := 19 }) (va_Pc [.ref aW] (zz_preW D vwCl [(cA, .int)] [(aW, .inr (5, [.null, .int (nI 0), .int (nI 0)]))] sz zz_nx)) (va_Qv (fun _ : Nat => True) (fun u => zz_post D vwCl [(cA, .int)] (va_A [(aW, .inr (5, [.null, .int (nI 0), .int (nI 0)]))] sz) ((fun u : Nat => [(aW, .inr (5, [.ref u, .int (nI 0), .int (nI 0)])), (u, .inl (cA, 64, .inl (fun j => nI ((fun _ => 0) j))))]) u)) (va_A [(aW, .inr (5, [.null, .int (nI 0), .int (nI 0)]))] sz)) 1 64 (va_A [(aW, .inr (5, [.null, .int (nI 0), .int (nI 0)]))] sz) := by
  refine Met.ofW (cc := b_W_init) (maxL := 1) (ret := none) (by decide) rfl ?_
  intro p e s m args below meth c s₁ B hml hv
  obtain ⟨rfl, hsz, hP, hK, hD0, hX⟩ := hv
  have hx := B.exec
  have hb := B.bytes
  have hr := B.returns
  have hts := atoms_spec (ws := ws_W_init) B.pre
  have hown : s.vm.findClass "DecodeTests$Waiting" = some m.cls := findClass_of_methodNamed B.named
  have hlocks := B.notSynchronized
  have hin : meth.name = "<init>" := (name_of_methodNamed B.named B.method).1
  have hT : ∀ w9 ∈ zz_T, w9.before ([.ref aW] : List Value).toArray s = true := fun w9 h => hts w9 (List.mem_cons_of_mem _ h)
  subst hsz
  have hD := hD0.self (sz := s.heap.size)
  generalize hAe : va_A [(aW, .inr (5, [.null, .int (nI 0), .int (nI 0)]))] s.heap.size = A at hD hX ⊢
  have hA : ∀ q : Nat, s.heap.size ≤ q → A q := fun q h => by rw [← hAe]; exact Or.inr h
  have hS : va_S A s.heap s.heap [] := va_S.rf
  have hl := lv_entry ([.ref aW]) (n := 1) (Nat.le_of_ble_eq_true rfl)
  rw [lg_entry_eq]
  generalize (lg_sl ([.ref aW]) ++ List.replicate (1 - (lg_sl ([.ref aW])).length) Slot.unset).toArray = ls at hl ⊢
  have hl : lv_has ls 1 [(0, .ref aW)] := hl
  refine lv_aload_n hx hb d_W_init_0 rfl (lv_at hl 0 rfl) ?_
  refine W.objInit hx hb hown (hT _ q_m_W_3) (hT _ q_oi_i) (hT _ q_oi_c) rfl (by rw [hml]; exact hl.1) rfl d_W_init_1 (Nat.le_of_ble_eq_true rfl) (Nat.le_of_ble_eq_true rfl) ?_
  refine W.eq (g2 := F0 m 4 ls []) rfl ?_
  refine lv_aload_n hx hb d_W_init_4 rfl (lv_at hl 0 rfl) ?_
  refine lv_bipush (v := nI 64) hx hb d_W_init_5 (by decide) ?_
  refine zz_newi hx hb (hT _ q_arr) hK hP hD hS hA (n := 64) (by omega) (show 0 + 1 ≤ 1 by omega) (show 0 + 64 ≤ 64 by omega) d_W_init_7 (fun q_1 H hP hD hS => ?_)
  have hP : va_P D vwCl [(aW, .inr (5, [.null, .int (nI 0), .int (nI 0)])), (q_1, .inl (cA, 64, .inl (fun j => nI ((fun _ => 0) j))))] H := hP
  have hD : va_D A [(aW, .inr (5, [.null, .int (nI 0), .int (nI 0)])), (q_1, .inl (cA, 64, .inl (fun j => nI ((fun _ => 0) j))))] := hD
  refine va_putF (D := D) (ci := 5) (v := .ref q_1) (ty := .array .int) (C := "DecodeTests$Waiting") (T := F_W) (N := 3) hx hb hT hin_W ft_W ft_W_ok n_W hown hK hP hD hS 0 rfl rfl 0 (by decide) (hT _ q_f_W_9) (fun _ h9 => h9) rfl hin rfl (by decide +kernel) rfl rfl (Nat.le_of_ble_eq_true rfl) d_W_init_9 (fun H locs hP hD hS => ?_)
  have hP : va_P D vwCl [(aW, .inr (5, [.ref q_1, .int (nI 0), .int (nI 0)])), (q_1, .inl (cA, 64, .inl (fun j => nI ((fun _ => 0) j))))] H := hP
  have hD : va_D A [(aW, .inr (5, [.ref q_1, .int (nI 0), .int (nI 0)])), (q_1, .inl (cA, 64, .inl (fun j => nI ((fun _ => 0) j))))] := hD
  have hP : va_P D vwCl [(aW, .inr (5, [.ref q_1, .int (nI 0), .int (nI 0)])), (q_1, .inl (cA, 64, .inl (fun j => nI ((fun _ => 0) j))))] H := hP.sub [0, 1] rfl
  have hD : va_D A [(aW, .inr (5, [.ref q_1, .int (nI 0), .int (nI 0)])), (q_1, .inl (cA, 64, .inl (fun j => nI ((fun _ => 0) j))))] := hD.sub [0, 1] (by decide) rfl
  refine W.widen (k := 1) (n := 64) (by omega) (by omega) ?_
  exact W.vret hx hb hr (fun t ht hW => ⟨⟨q_1, rfl, trivial, by rw [ht]; exact hP, va_K.moved hW.alike hK, hD⟩, hS.F ht⟩) hS.2.2 d_W_init_12

set_option maxHeartbeats 4000000 in
set_option maxRecDepth 100000 in
theorem c_T_init (l : Launch) (D : va_G) (cA : ClassId) (t : Nat) (aT : Nat) (bw : Nat) (sz : Nat) (hW : bw ≤ 8) : Met l y_T_init ws_T_init ({ frames := 1, cells := 3, slots := 19683, locals := 19 }) (va_Pc [.ref aT, .int (nI bw)] (zz_preW D vwCl [(cA, .int)] [(aT, .inr (3, [.int (nI 0), .int (nI 0), .null, .null, .null, .int (nI 0)]))] sz (zz_st t))) (va_Qv (fun _ : Nat × Nat × Nat => True) (fun u => zz_post D vwCl [(cA, .int)] (va_A [(aT, .inr (3, [.int (nI 0), .int (nI 0), .null, .null, .null, .int (nI 0)]))] sz) ((fun u : Nat × Nat × Nat => [(aT, .inr (3, [.int (nI bw), .int (nI (3 ^ bw)), .ref u.1, .ref u.2.1, .ref u.2.2, .int (nI (zz_b false))])), (u.1, .inl (cA, (3 ^ bw), .inl (fun j => zz_o ((fun _ => 1) j)))), (u.2.1, .inl (cA, (3 ^ bw), .inl (fun j => nI ((fun _ => 0) j)))), (u.2.2, .inl (cA, (3 ^ bw), .inl (fun j => nI ((fun _ => 0) j))))]) u)) (va_A [(aT, .inr (3, [.int (nI 0), .int (nI 0), .null, .null, .null, .int (nI 0)]))] sz)) 3 19683 (va_A [(aT, .inr (3, [.int (nI 0), .int (nI 0), .null, .null, .null, .int (nI 0)]))] sz) := by
  refine Met.ofW (cc := b_T_init) (maxL := 2) (ret := none) (by decide) rfl ?_
  intro p e s m args below meth c s₁ B hml hv
  obtain ⟨rfl, hsz, hP, hK, hD0, hX⟩ := hv
  have hx := B.exec
  have hb := B.bytes
  have hr := B.returns
  have hts := atoms_spec (ws := ws_T_init) B.pre
  have hown : s.vm.findClass "DecodeTests$Tables" = some m.cls := findClass_of_methodNamed B.named
  have hlocks := B.notSynchronized
  have hin : meth.name = "<init>" := (name_of_methodNamed B.named B.method).1
  have hT : ∀ w9 ∈ zz_T, w9.before ([.ref aT, .int (nI bw)] : List Value).toArray s = true := fun w9 h => hts w9 (List.mem_cons_of_mem _ h)
  subst hsz
  have hD := hD0.self (sz := s.heap.size)
  generalize hAe : va_A [(aT, .inr (3, [.int (nI 0), .int (nI 0), .null, .null, .null, .int (nI 0)]))] s.heap.size = A at hD hX ⊢
  have hA : ∀ q : Nat, s.heap.size ≤ q → A q := fun q h => by rw [← hAe]; exact Or.inr h
  have hS : va_S A s.heap s.heap [] := va_S.rf
  have hl := lv_entry ([.ref aT, .int (nI bw)]) (n := 2) (Nat.le_of_ble_eq_true rfl)
  rw [lg_entry_eq]
  generalize (lg_sl ([.ref aT, .int (nI bw)]) ++ List.replicate (2 - (lg_sl ([.ref aT, .int (nI bw)])).length) Slot.unset).toArray = ls at hl ⊢
  have hl : lv_has ls 2 [(0, .ref aT), (1, .int (nI bw))] := hl
  have p3 := zz_3le hW
  refine lv_aload_n hx hb d_T_init_0 rfl (lv_at hl 0 rfl) ?_
  refine W.objInit hx hb hown (hT _ q_m_T_3) (hT _ q_oi_i) (hT _ q_oi_c) rfl (by rw [hml]; exact hl.1) rfl d_T_init_1 (Nat.le_of_ble_eq_true rfl) (Nat.le_of_ble_eq_true rfl) ?_
  refine W.eq (g2 := F0 m 4 ls []) rfl ?_
  refine lv_aload_n hx hb d_T_init_4 rfl (lv_at hl 0 rfl) ?_
  refine lv_iload_n hx hb d_T_init_5 rfl (lv_at hl 1 rfl) ?_
  refine va_putF (D := D) (ci := 3) (v := .int (nI bw)) (ty := .int) (C := "DecodeTests$Tables") (T := F_T) (N := 6) hx hb hT hin_T ft_T ft_T_ok n_T hown hK hP hD hS 0 rfl rfl 0 (by decide) (hT _ q_f_T_9) (fun _ h9 => h9) rfl hin rfl (by decide +kernel) rfl rfl (Nat.le_of_ble_eq_true rfl) d_T_init_6 (fun H locs hP hD hS => ?_)
  have hP : va_P D vwCl [(aT, .inr (3, [.int (nI bw), .int (nI 0), .null, .null, .null, .int (nI 0)]))] H := hP
  have hD : va_D A [(aT, .inr (3, [.int (nI bw), .int (nI 0), .null, .null, .null, .int (nI 0)]))] := hD
  refine lv_aload_n hx hb d_T_init_9 rfl (lv_at hl 0 rfl) ?_
  refine va_gets hx hb hX.1 hS hown (hT _ q_f_T_15) (fun _ h9 => h9) d_T_init_10 ?_
  refine lv_iload_n hx hb d_T_init_13 rfl (lv_at hl 1 rfl) ?_
  refine va_ti hx hb hX.2 hS (vp_in_nI (n := bw) (by omega) (by decide)) (v := .int (nI (3 ^ bw))) (by rw [nI_clamp (by omega)]) d_T_init_14 ?_
  refine va_putF (D := D) (ci := 3) (v := .int (nI (3 ^ bw))) (ty := .int) (C := "DecodeTests$Tables") (T := F_T) (N := 6) hx hb hT hin_T ft_T ft_T_ok n_T hown hK hP hD hS 0 rfl rfl 1 (by decide) (hT _ q_f_T_19) (fun _ h9 => h9) rfl hin rfl (by decide +kernel) rfl rfl (Nat.le_of_ble_eq_true rfl) d_T_init_15 (fun H locs hP hD hS => ?_)
  have hP : va_P D vwCl [(aT, .inr (3, [.int (nI bw), .int (nI (3 ^ bw)), .null, .null, .null, .int (nI 0)]))] H := hP
  have hD : va_D A [(aT, .inr (3, [.int (nI bw), .int (nI (3 ^ bw)), .null, .null, .null, .int (nI 0)]))] := hD
  refine lv_aload_n hx hb d_T_init_18 rfl (lv_at hl 0 rfl) ?_
  refine lv_aload_n hx hb d_T_init_19 rfl (lv_at hl 0 rfl) ?_
  refine va_get (D := D) (ci := 3) (v := .int (nI (3 ^ bw))) (C := "DecodeTests$Tables") (T := F_T) (N := 6) hx hb hT hin_T hown hK hP 0 rfl rfl 1 (by decide) (hT _ q_f_T_19) (fun _ h9 => h9) rfl d_T_init_20 ?_
  refine zz_newi hx hb (hT _ q_arr) hK hP hD hS hA (n := 3 ^ bw) (by omega) (show 0 + 1 ≤ 3 by omega) (show 0 + (3 ^ bw) ≤ 19683 by omega) d_T_init_23 (fun q_1 H hP hD hS => ?_)
  have hP : va_P D vwCl [(aT, .inr (3, [.int (nI bw), .int (nI (3 ^ bw)), .null, .null, .null, .int (nI 0)])), (q_1, .inl (cA, 3 ^ bw, .inl (fun j => nI ((fun _ => 0) j))))] H := hP
  have hD : va_D A [(aT, .inr (3, [.int (nI bw), .int (nI (3 ^ bw)), .null, .null, .null, .int (nI 0)])), (q_1, .inl (cA, 3 ^ bw, .inl (fun j => nI ((fun _ => 0) j))))] := hD
  refine va_putF (D := D) (ci := 3) (v := .ref q_1) (ty := .array .int) (C := "DecodeTests$Tables") (T := F_T) (N := 6) hx hb hT hin_T ft_T ft_T_ok n_T hown hK hP hD hS 0 rfl rfl 2 (by decide) (hT _ q_f_T_22) (fun _ h9 => h9) rfl hin rfl (by decide +kernel) rfl rfl (Nat.le_of_ble_eq_true rfl) d_T_init_25 (fun H locs hP hD hS => ?_)
  have hP : va_P D vwCl [(aT, .inr (3, [.int (nI bw), .int (nI (3 ^ bw)), .ref q_1, .null, .null, .int (nI 0)])), (q_1, .inl (cA, 3 ^ bw, .inl (fun j => nI ((fun _ => 0) j))))] H := hP
  have hD : va_D A [(aT, .inr (3, [.int (nI bw), .int (nI (3 ^ bw)), .ref q_1, .null, .null, .int (nI 0)])), (q_1, .inl (cA, 3 ^ bw, .inl (fun j => nI ((fun _ => 0) j))))] := hD
  refine lv_aload_n hx hb d_T_init_28 rfl (lv_at hl 0 rfl) ?_
  refine lv_aload_n hx hb d_T_init_29 rfl (lv_at hl 0 rfl) ?_
  refine va_get (D := D) (ci := 3) (v := .int (nI (3 ^ bw))) (C := "DecodeTests$Tables") (T := F_T) (N := 6) hx hb hT hin_T hown hK hP 0 rfl rfl 1 (by decide) (hT _ q_f_T_19) (fun _ h9 => h9) rfl d_T_init_30 ?_
  refine zz_newi hx hb (hT _ q_arr) hK hP hD hS hA (n := 3 ^ bw) (by omega) (show 0 + 1 + 1 ≤ 3 by omega) (show 0 + (3 ^ bw) + (3 ^ bw) ≤ 19683 by omega) d_T_init_33 (fun q_2 H hP hD hS => ?_)
  have hP : va_P D vwCl [(aT, .inr (3, [.int (nI bw), .int (nI (3 ^ bw)), .ref q_1, .null, .null, .int (nI 0)])), (q_1, .inl (cA, 3 ^ bw, .inl (fun j => nI ((fun _ => 0) j)))), (q_2, .inl (cA, 3 ^ bw, .inl (fun j => nI ((fun _ => 0) j))))] H := hP
  have hD : va_D A [(aT, .inr (3, [.int (nI bw), .int (nI (3 ^ bw)), .ref q_1, .null, .null, .int (nI 0)])), (q_1, .inl (cA, 3 ^ bw, .inl (fun j => nI ((fun _ => 0) j)))), (q_2, .inl (cA, 3 ^ bw, .inl (fun j => nI ((fun _ => 0) j))))] := hD
  refine va_putF (D := D) (ci := 3) (v := .ref q_2) (ty := .array .int) (C := "DecodeTests$Tables") (T := F_T) (N := 6) hx hb hT hin_T ft_T ft_T_ok n_T hown hK hP hD hS 0 rfl rfl 3 (by decide) (hT _ q_f_T_25) (fun _ h9 => h9) rfl hin rfl (by decide +kernel) rfl rfl (Nat.le_of_ble_eq_true rfl) d_T_init_35 (fun H locs hP hD hS => ?_)
  have hP : va_P D vwCl [(aT, .inr (3, [.int (nI bw), .int (nI (3 ^ bw)), .ref q_1, .ref q_2, .null, .int (nI 0)])), (q_1, .inl (cA, 3 ^ bw, .inl (fun j => nI ((fun _ => 0) j)))), (q_2, .inl (cA, 3 ^ bw, .inl (fun j => nI ((fun _ => 0) j))))] H := hP
  have hD : va_D A [(aT, .inr (3, [.int (nI bw), .int (nI (3 ^ bw)), .ref q_1, .ref q_2, .null, .int (nI 0)])), (q_1, .inl (cA, 3 ^ bw, .inl (fun j => nI ((fun _ => 0) j)))), (q_2, .inl (cA, 3 ^ bw, .inl (fun j => nI ((fun _ => 0) j))))] := hD
  refine lv_aload_n hx hb d_T_init_38 rfl (lv_at hl 0 rfl) ?_
  refine lv_aload_n hx hb d_T_init_39 rfl (lv_at hl 0 rfl) ?_
  refine va_get (D := D) (ci := 3) (v := .int (nI (3 ^ bw))) (C := "DecodeTests$Tables") (T := F_T) (N := 6) hx hb hT hin_T hown hK hP 0 rfl rfl 1 (by decide) (hT _ q_f_T_19) (fun _ h9 => h9) rfl d_T_init_40 ?_
  refine zz_newi hx hb (hT _ q_arr) hK hP hD hS hA (n := 3 ^ bw) (by omega) (show 0 + 1 + 1 + 1 ≤ 3 by omega) (show 0 + (3 ^ bw) + (3 ^ bw) + (3 ^ bw) ≤ 19683 by omega) d_T_init_43 (fun q_3 H hP hD hS => ?_)
  have hP : va_P D vwCl [(aT, .inr (3, [.int (nI bw), .int (nI (3 ^ bw)), .ref q_1, .ref q_2, .null, .int (nI 0)])), (q_1, .inl (cA, 3 ^ bw, .inl (fun j => nI ((fun _ => 0) j)))), (q_2, .inl (cA, 3 ^ bw, .inl (fun j => nI ((fun _ => 0) j)))), (q_3, .inl (cA, 3 ^ bw, .inl (fun j => nI ((fun _ => 0) j))))] H := hP
  have hD : va_D A [(aT, .inr (3, [.int (nI bw), .int (nI (3 ^ bw)), .ref q_1, .ref q_2, .null, .int (nI 0)])), (q_1, .inl (cA, 3 ^ bw, .inl (fun j => nI ((fun _ => 0) j)))), (q_2, .inl (cA, 3 ^ bw, .inl (fun j => nI ((fun _ => 0) j)))), (q_3, .inl (cA, 3 ^ bw, .inl (fun j => nI ((fun _ => 0) j))))] := hD
  refine va_putF (D := D) (ci := 3) (v := .ref q_3) (ty := .array .int) (C := "DecodeTests$Tables") (T := F_T) (N := 6) hx hb hT hin_T ft_T ft_T_ok n_T hown hK hP hD hS 0 rfl rfl 4 (by decide) (hT _ q_f_T_28) (fun _ h9 => h9) rfl hin rfl (by decide +kernel) rfl rfl (Nat.le_of_ble_eq_true rfl) d_T_init_45 (fun H locs hP hD hS => ?_)
  have hP : va_P D vwCl [(aT, .inr (3, [.int (nI bw), .int (nI (3 ^ bw)), .ref q_1, .ref q_2, .ref q_3, .int (nI 0)])), (q_1, .inl (cA, 3 ^ bw, .inl (fun j => nI ((fun _ => 0) j)))), (q_2, .inl (cA, 3 ^ bw, .inl (fun j => nI ((fun _ => 0) j)))), (q_3, .inl (cA, 3 ^ bw, .inl (fun j => nI ((fun _ => 0) j))))] H := hP
  have hD : va_D A [(aT, .inr (3, [.int (nI bw), .int (nI (3 ^ bw)), .ref q_1, .ref q_2, .ref q_3, .int (nI 0)])), (q_1, .inl (cA, 3 ^ bw, .inl (fun j => nI ((fun _ => 0) j)))), (q_2, .inl (cA, 3 ^ bw, .inl (fun j => nI ((fun _ => 0) j)))), (q_3, .inl (cA, 3 ^ bw, .inl (fun j => nI ((fun _ => 0) j))))] := hD
  have hP : va_P D vwCl [(aT, .inr (3, [.int (nI bw), .int (nI (3 ^ bw)), .ref q_1, .ref q_2, .ref q_3, .int (nI (zz_b false))])), (q_1, .inl (cA, (3 ^ bw), .inl (fun j => zz_o ((fun _ => 1) j)))), (q_2, .inl (cA, (3 ^ bw), .inl (fun j => nI ((fun _ => 0) j)))), (q_3, .inl (cA, (3 ^ bw), .inl (fun j => nI ((fun _ => 0) j))))] H := hP.sub [0, 1, 2, 3] rfl
  have hD : va_D A [(aT, .inr (3, [.int (nI bw), .int (nI (3 ^ bw)), .ref q_1, .ref q_2, .ref q_3, .int (nI (zz_b false))])), (q_1, .inl (cA, (3 ^ bw), .inl (fun j => zz_o ((fun _ => 1) j)))), (q_2, .inl (cA, (3 ^ bw), .inl (fun j => nI ((fun _ => 0) j)))), (q_3, .inl (cA, (3 ^ bw), .inl (fun j => nI ((fun _ => 0) j))))] := hD.sub [0, 1, 2, 3] (by decide) rfl
  refine W.widen (k := 3) (n := 19683) (by omega) (by omega) ?_
  exact W.vret hx hb hr (fun t ht hW => ⟨⟨(q_1, q_2, q_3), rfl, trivial, by rw [ht]; exact hP, va_K.moved hW.alike hK, hD⟩, hS.F ht⟩) hS.2.2 d_T_init_48

set_option maxHeartbeats 4000000 in
set_option maxRecDepth 100000 in
theorem c_R_init (l : Launch) (D : va_G) (cA : ClassId) (aR : Nat) (bw : Nat) (sz : Nat) (hW : bw ≤ 8) : Met l y_R_init ws_R_init ({ frames := 1, cells := 5, slots := 2555, locals := 19 }) (va_Pc [.ref aR, .int (nI bw)] (zz_preW D vwCl [(cA, .int)] [(aR, .inr (4, [.int (nI 0), .null, .null, .null, .null, .null, .int (nI 0), .int (nI 0)]))] sz zz_nx)) (va_Qv (fun _ : Nat × Nat × Nat × Nat × Nat => True) (fun u => zz_post D vwCl [(cA, .int)] (va_A [(aR, .inr (4, [.int (nI 0), .null, .null, .null, .null, .null, .int (nI 0), .int (nI 0)]))] sz) ((fun u : Nat × Nat × Nat × Nat × Nat => [(aR, .inr (4, [.int (nI bw), .ref u.1, .ref u.2.1, .ref u.2.2.1, .ref u.2.2.2.1, .ref u.2.2.2.2, .int (nI 0), .int (nI 0)])), (u.1, .inl (cA, (2 * 2 ^ bw - 1), .inl (fun j => zz_o ((fun _ => 1) j)))), (u.2.1, .inl (cA, (2 * 2 ^ bw - 1), .inl (fun j => zz_o ((fun _ => 1) j)))), (u.2.2.1, .inl (cA, (2 * 2 ^ bw - 1), .inl (fun j => zz_o ((fun _ => 1) j)))), (u.2.2.2.1, .inl (cA, (2 * 2 ^ bw - 1), .inl (fun j => nI ((fun _ => 0) j)))), (u.2.2.2.2, .inl (cA, (2 * 2 ^ bw - 1), .inl (fun j => nI ((fun _ => 0) j))))]) u)) (va_A [(aR, .inr (4, [.int (nI 0), .null, .null, .null, .null, .null, .int (nI 0), .int (nI 0)]))] sz)) 5 2555 (va_A [(aR, .inr (4, [.int (nI 0), .null, .null, .null, .null, .null, .int (nI 0), .int (nI 0)]))] sz) := by
  refine Met.ofW (cc := b_R_init) (maxL := 3) (ret := none) (by decide) rfl ?_
  intro p e s m args below meth c s₁ B hml hv
  obtain ⟨rfl, hsz, hP, hK, hD0, hX⟩ := hv
  have hx := B.exec
  have hb := B.bytes
  have hr := B.returns
  have hts := atoms_spec (ws := ws_R_init) B.pre
  have hown : s.vm.findClass "DecodeTests$Tree" = some m.cls := findClass_of_methodNamed B.named
  have hlocks := B.notSynchronized
  have hin : meth.name = "<init>" := (name_of_methodNamed B.named B.method).1
  have hT : ∀ w9 ∈ zz_T, w9.before ([.ref aR, .int (nI bw)] : List Value).toArray s = true := fun w9 h => hts w9 (List.mem_cons_of_mem _ h)
  subst hsz
  have hD := hD0.self (sz := s.heap.size)
  generalize hAe : va_A [(aR, .inr (4, [.int (nI 0), .null, .null, .null, .null, .null, .int (nI 0), .int (nI 0)]))] s.heap.size = A at hD hX ⊢
  have hA : ∀ q : Nat, s.heap.size ≤ q → A q := fun q h => by rw [← hAe]; exact Or.inr h
  have hS : va_S A s.heap s.heap [] := va_S.rf
  have hl := lv_entry ([.ref aR, .int (nI bw)]) (n := 3) (Nat.le_of_ble_eq_true rfl)
  rw [lg_entry_eq]
  generalize (lg_sl ([.ref aR, .int (nI bw)]) ++ List.replicate (3 - (lg_sl ([.ref aR, .int (nI bw)])).length) Slot.unset).toArray = ls at hl ⊢
  have hl : lv_has ls 3 [(0, .ref aR), (1, .int (nI bw))] := hl
  have p2 := zz_2le (a := 2) hW
  have p1 : 1 ≤ 2 * 2 ^ bw := by have := Nat.two_pow_pos bw; omega
  refine lv_aload_n hx hb d_R_init_0 rfl (lv_at hl 0 rfl) ?_
  refine W.objInit hx hb hown (hT _ q_m_R_3) (hT _ q_oi_i) (hT _ q_oi_c) rfl (by rw [hml]; exact hl.1) rfl d_R_init_1 (Nat.le_of_ble_eq_true rfl) (Nat.le_of_ble_eq_true rfl) ?_
  refine W.eq (g2 := F0 m 4 ls []) rfl ?_
  refine lv_aload_n hx hb d_R_init_4 rfl (lv_at hl 0 rfl) ?_
  refine lv_iload_n hx hb d_R_init_5 rfl (lv_at hl 1 rfl) ?_
  refine va_putF (D := D) (ci := 4) (v := .int (nI bw)) (ty := .int) (C := "DecodeTests$Tree") (T := F_R) (N := 8) hx hb hT hin_R ft_R ft_R_ok n_R hown hK hP hD hS 0 rfl rfl 0 (by decide) (hT _ q_f_R_9) (fun _ h9 => h9) rfl hin rfl (by decide +kernel) rfl rfl (Nat.le_of_ble_eq_true rfl) d_R_init_6 (fun H locs hP hD hS => ?_)
  have hP : va_P D vwCl [(aR, .inr (4, [.int (nI bw), .null, .null, .null, .null, .null, .int (nI 0), .int (nI 0)]))] H := hP
  have hD : va_D A [(aR, .inr (4, [.int (nI bw), .null, .null, .null, .null, .null, .int (nI 0), .int (nI 0)]))] := hD
  refine lv_iconst (v := nI 2) hx hb d_R_init_9 (by decide) ?_
  refine lv_iload_n hx hb d_R_init_10 rfl (lv_at hl 1 rfl) ?_
  refine lv_ishl hx hb d_R_init_11 ?_
  refine zz_top (y := nI (2 * 2 ^ bw)) (zz_shl (by omega) (by omega)) ?_
  refine lv_iconst (v := nI 1) hx hb d_R_init_12 (by decide) ?_
  refine lv_isub hx hb d_R_init_13 ?_
  refine zz_top (y := nI (2 * 2 ^ bw - 1)) (pk_sub (by omega)) ?_
  refine lv_istore_n (lv' := [(2, .int (nI (2 * 2 ^ bw - 1))), (0, .ref aR), (1, .int (nI bw))]) hx hb d_R_init_14 rfl hl (by decide) rfl (fun ls hl => ?_)
  refine lv_aload_n hx hb d_R_init_15 rfl (lv_at hl 1 rfl) ?_
  refine lv_iload_n hx hb d_R_init_16 rfl (lv_at hl 0 rfl) ?_
  refine zz_newi hx hb (hT _ q_arr) hK hP hD hS hA (n := 2 * 2 ^ bw - 1) (by omega) (show 0 + 1 ≤ 5 by omega) (show 0 + (2 * 2 ^ bw - 1) ≤ 2555 by omega) d_R_init_17 (fun q_1 H hP hD hS => ?_)
  have hP : va_P D vwCl [(aR, .inr (4, [.int (nI bw), .null, .null, .null, .null, .null, .int (nI 0), .int (nI 0)])), (q_1, .inl (cA, 2 * 2 ^ bw - 1, .inl (fun j => nI ((fun _ => 0) j))))] H := hP
  have hD : va_D A [(aR, .inr (4, [.int (nI bw), .null, .null, .null, .null, .null, .int (nI 0), .int (nI 0)])), (q_1, .inl (cA, 2 * 2 ^ bw - 1, .inl (fun j => nI ((fun _ => 0) j))))] := hD
  refine va_putF (D := D) (ci := 4) (v := .ref q_1) (ty := .array .int) (C := "DecodeTests$Tree") (T := F_R) (N := 8) hx hb hT hin_R ft_R ft_R_ok n_R hown hK hP hD hS 0 rfl rfl 1 (by decide) (hT _ q_f_R_15) (fun _ h9 => h9) rfl hin rfl (by decide +kernel) rfl rfl (Nat.le_of_ble_eq_true rfl) d_R_init_19 (fun H locs hP hD hS => ?_)
  have hP : va_P D vwCl [(aR, .inr (4, [.int (nI bw), .ref q_1, .null, .null, .null, .null, .int (nI 0), .int (nI 0)])), (q_1, .inl (cA, 2 * 2 ^ bw - 1, .inl (fun j => nI ((fun _ => 0) j))))] H := hP
  have hD : va_D A [(aR, .inr (4, [.int (nI bw), .ref q_1, .null, .null, .null, .null, .int (nI 0), .int (nI 0)])), (q_1, .inl (cA, 2 * 2 ^ bw - 1, .inl (fun j => nI ((fun _ => 0) j))))] := hD
  refine lv_aload_n hx hb d_R_init_22 rfl (lv_at hl 1 rfl) ?_
  refine lv_iload_n hx hb d_R_init_23 rfl (lv_at hl 0 rfl) ?_
  refine zz_newi hx hb (hT _ q_arr) hK hP hD hS hA (n := 2 * 2 ^ bw - 1) (by omega) (show 0 + 1 + 1 ≤ 5 by omega) (show 0 + (2 * 2 ^ bw - 1) + (2 * 2 ^ bw - 1) ≤ 2555 by omega) d_R_init_24 (fun q_2 H hP hD hS => ?_)
  have hP : va_P D vwCl [(aR, .inr (4, [.int (nI bw), .ref q_1, .null, .null, .null, .null, .int (nI 0), .int (nI 0)])), (q_1, .inl (cA, 2 * 2 ^ bw - 1, .inl (fun j => nI ((fun _ => 0) j)))), (q_2, .inl (cA, 2 * 2 ^ bw - 1, .inl (fun j => nI ((fun _ => 0) j))))] H := hP
  have hD : va_D A [(aR, .inr (4, [.int (nI bw), .ref q_1, .null, .null, .null, .null, .int (nI 0), .int (nI 0)])), (q_1, .inl (cA, 2 * 2 ^ bw - 1, .inl (fun j => nI ((fun _ => 0) j)))), (q_2, .inl (cA, 2 * 2 ^ bw - 1, .inl (fun j => nI ((fun _ => 0) j))))] := hD
  refine va_putF (D := D) (ci := 4) (v := .ref q_2) (ty := .array .int) (C := "DecodeTests$Tree") (T := F_R) (N := 8) hx hb hT hin_R ft_R ft_R_ok n_R hown hK hP hD hS 0 rfl rfl 2 (by decide) (hT _ q_f_R_19) (fun _ h9 => h9) rfl hin rfl (by decide +kernel) rfl rfl (Nat.le_of_ble_eq_true rfl) d_R_init_26 (fun H locs hP hD hS => ?_)
  have hP : va_P D vwCl [(aR, .inr (4, [.int (nI bw), .ref q_1, .ref q_2, .null, .null, .null, .int (nI 0), .int (nI 0)])), (q_1, .inl (cA, 2 * 2 ^ bw - 1, .inl (fun j => nI ((fun _ => 0) j)))), (q_2, .inl (cA, 2 * 2 ^ bw - 1, .inl (fun j => nI ((fun _ => 0) j))))] H := hP
  have hD : va_D A [(aR, .inr (4, [.int (nI bw), .ref q_1, .ref q_2, .null, .null, .null, .int (nI 0), .int (nI 0)])), (q_1, .inl (cA, 2 * 2 ^ bw - 1, .inl (fun j => nI ((fun _ => 0) j)))), (q_2, .inl (cA, 2 * 2 ^ bw - 1, .inl (fun j => nI ((fun _ => 0) j))))] := hD
  refine lv_aload_n hx hb d_R_init_29 rfl (lv_at hl 1 rfl) ?_
  refine lv_iload_n hx hb d_R_init_30 rfl (lv_at hl 0 rfl) ?_
  refine zz_newi hx hb (hT _ q_arr) hK hP hD hS hA (n := 2 * 2 ^ bw - 1) (by omega) (show 0 + 1 + 1 + 1 ≤ 5 by omega) (show 0 + (2 * 2 ^ bw - 1) + (2 * 2 ^ bw - 1) + (2 * 2 ^ bw - 1) ≤ 2555 by omega) d_R_init_31 (fun q_3 H hP hD hS => ?_)
  have hP : va_P D vwCl [(aR, .inr (4, [.int (nI bw), .ref q_1, .ref q_2, .null, .null, .null, .int (nI 0), .int (nI 0)])), (q_1, .inl (cA, 2 * 2 ^ bw - 1, .inl (fun j => nI ((fun _ => 0) j)))), (q_2, .inl (cA, 2 * 2 ^ bw - 1, .inl (fun j => nI ((fun _ => 0) j)))), (q_3, .inl (cA, 2 * 2 ^ bw - 1, .inl (fun j => nI ((fun _ => 0) j))))] H := hP
  have hD : va_D A [(aR, .inr (4, [.int (nI bw), .ref q_1, .ref q_2, .null, .null, .null, .int (nI 0), .int (nI 0)])), (q_1, .inl (cA, 2 * 2 ^ bw - 1, .inl (fun j => nI ((fun _ => 0) j)))), (q_2, .inl (cA, 2 * 2 ^ bw - 1, .inl (fun j => nI ((fun _ => 0) j)))), (q_3, .inl (cA, 2 * 2 ^ bw - 1, .inl (fun j => nI ((fun _ => 0) j))))] := hD
  refine va_putF (D := D) (ci := 4) (v := .ref q_3) (ty := .array .int) (C := "DecodeTests$Tree") (T := F_R) (N := 8) hx hb hT hin_R ft_R ft_R_ok n_R hown hK hP hD hS 0 rfl rfl 3 (by decide) (hT _ q_f_R_22) (fun _ h9 => h9) rfl hin rfl (by decide +kernel) rfl rfl (Nat.le_of_ble_eq_true rfl) d_R_init_33 (fun H locs hP hD hS => ?_)
  have hP : va_P D vwCl [(aR, .inr (4, [.int (nI bw), .ref q_1, .ref q_2, .ref q_3, .null, .null, .int (nI 0), .int (nI 0)])), (q_1, .inl (cA, 2 * 2 ^ bw - 1, .inl (fun j => nI ((fun _ => 0) j)))), (q_2, .inl (cA, 2 * 2 ^ bw - 1, .inl (fun j => nI ((fun _ => 0) j)))), (q_3, .inl (cA, 2 * 2 ^ bw - 1, .inl (fun j => nI ((fun _ => 0) j))))] H := hP
  have hD : va_D A [(aR, .inr (4, [.int (nI bw), .ref q_1, .ref q_2, .ref q_3, .null, .null, .int (nI 0), .int (nI 0)])), (q_1, .inl (cA, 2 * 2 ^ bw - 1, .inl (fun j => nI ((fun _ => 0) j)))), (q_2, .inl (cA, 2 * 2 ^ bw - 1, .inl (fun j => nI ((fun _ => 0) j)))), (q_3, .inl (cA, 2 * 2 ^ bw - 1, .inl (fun j => nI ((fun _ => 0) j))))] := hD
  refine lv_aload_n hx hb d_R_init_36 rfl (lv_at hl 1 rfl) ?_
  refine lv_iload_n hx hb d_R_init_37 rfl (lv_at hl 0 rfl) ?_
  refine zz_newi hx hb (hT _ q_arr) hK hP hD hS hA (n := 2 * 2 ^ bw - 1) (by omega) (show 0 + 1 + 1 + 1 + 1 ≤ 5 by omega) (show 0 + (2 * 2 ^ bw - 1) + (2 * 2 ^ bw - 1) + (2 * 2 ^ bw - 1) + (2 * 2 ^ bw - 1) ≤ 2555 by omega) d_R_init_38 (fun q_4 H hP hD hS => ?_)
  have hP : va_P D vwCl [(aR, .inr (4, [.int (nI bw), .ref q_1, .ref q_2, .ref q_3, .null, .null, .int (nI 0), .int (nI 0)])), (q_1, .inl (cA, 2 * 2 ^ bw - 1, .inl (fun j => nI ((fun _ => 0) j)))), (q_2, .inl (cA, 2 * 2 ^ bw - 1, .inl (fun j => nI ((fun _ => 0) j)))), (q_3, .inl (cA, 2 * 2 ^ bw - 1, .inl (fun j => nI ((fun _ => 0) j)))), (q_4, .inl (cA, 2 * 2 ^ bw - 1, .inl (fun j => nI ((fun _ => 0) j))))] H := hP
  have hD : va_D A [(aR, .inr (4, [.int (nI bw), .ref q_1, .ref q_2, .ref q_3, .null, .null, .int (nI 0), .int (nI 0)])), (q_1, .inl (cA, 2 * 2 ^ bw - 1, .inl (fun j => nI ((fun _ => 0) j)))), (q_2, .inl (cA, 2 * 2 ^ bw - 1, .inl (fun j => nI ((fun _ => 0) j)))), (q_3, .inl (cA, 2 * 2 ^ bw - 1, .inl (fun j => nI ((fun _ => 0) j)))), (q_4, .inl (cA, 2 * 2 ^ bw - 1, .inl (fun j => nI ((fun _ => 0) j))))] := hD
  refine va_putF (D := D) (ci := 4) (v := .ref q_4) (ty := .array .int) (C := "DecodeTests$Tree") (T := F_R) (N := 8) hx hb hT hin_R ft_R ft_R_ok n_R hown hK hP hD hS 0 rfl rfl 4 (by decide) (hT _ q_f_R_25) (fun _ h9 => h9) rfl hin rfl (by decide +kernel) rfl rfl (Nat.le_of_ble_eq_true rfl) d_R_init_40 (fun H locs hP hD hS => ?_)
  have hP : va_P D vwCl [(aR, .inr (4, [.int (nI bw), .ref q_1, .ref q_2, .ref q_3, .ref q_4, .null, .int (nI 0), .int (nI 0)])), (q_1, .inl (cA, 2 * 2 ^ bw - 1, .inl (fun j => nI ((fun _ => 0) j)))), (q_2, .inl (cA, 2 * 2 ^ bw - 1, .inl (fun j => nI ((fun _ => 0) j)))), (q_3, .inl (cA, 2 * 2 ^ bw - 1, .inl (fun j => nI ((fun _ => 0) j)))), (q_4, .inl (cA, 2 * 2 ^ bw - 1, .inl (fun j => nI ((fun _ => 0) j))))] H := hP
  have hD : va_D A [(aR, .inr (4, [.int (nI bw), .ref q_1, .ref q_2, .ref q_3, .ref q_4, .null, .int (nI 0), .int (nI 0)])), (q_1, .inl (cA, 2 * 2 ^ bw - 1, .inl (fun j => nI ((fun _ => 0) j)))), (q_2, .inl (cA, 2 * 2 ^ bw - 1, .inl (fun j => nI ((fun _ => 0) j)))), (q_3, .inl (cA, 2 * 2 ^ bw - 1, .inl (fun j => nI ((fun _ => 0) j)))), (q_4, .inl (cA, 2 * 2 ^ bw - 1, .inl (fun j => nI ((fun _ => 0) j))))] := hD
  refine lv_aload_n hx hb d_R_init_43 rfl (lv_at hl 1 rfl) ?_
  refine lv_iload_n hx hb d_R_init_44 rfl (lv_at hl 0 rfl) ?_
  refine zz_newi hx hb (hT _ q_arr) hK hP hD hS hA (n := 2 * 2 ^ bw - 1) (by omega) (show 0 + 1 + 1 + 1 + 1 + 1 ≤ 5 by omega) (show 0 + (2 * 2 ^ bw - 1) + (2 * 2 ^ bw - 1) + (2 * 2 ^ bw - 1) + (2 * 2 ^ bw - 1) + (2 * 2 ^ bw - 1) ≤ 2555 by omega) d_R_init_45 (fun q_5 H hP hD hS => ?_)
  have hP : va_P D vwCl [(aR, .inr (4, [.int (nI bw), .ref q_1, .ref q_2, .ref q_3, .ref q_4, .null, .int (nI 0), .int (nI 0)])), (q_1, .inl (cA, 2 * 2 ^ bw - 1, .inl (fun j => nI ((fun _ => 0) j)))), (q_2, .inl (cA, 2 * 2 ^ bw - 1, .inl (fun j => nI ((fun _ => 0) j)))), (q_3, .inl (cA, 2 * 2 ^ bw - 1, .inl (fun j => nI ((fun _ => 0) j)))), (q_4, .inl (cA, 2 * 2 ^ bw - 1, .inl (fun j => nI ((fun _ => 0) j)))), (q_5, .inl (cA, 2 * 2 ^ bw - 1, .inl (fun j => nI ((fun _ => 0) j))))] H := hP
  have hD : va_D A [(aR, .inr (4, [.int (nI bw), .ref q_1, .ref q_2, .ref q_3, .ref q_4, .null, .int (nI 0), .int (nI 0)])), (q_1, .inl (cA, 2 * 2 ^ bw - 1, .inl (fun j => nI ((fun _ => 0) j)))), (q_2, .inl (cA, 2 * 2 ^ bw - 1, .inl (fun j => nI ((fun _ => 0) j)))), (q_3, .inl (cA, 2 * 2 ^ bw - 1, .inl (fun j => nI ((fun _ => 0) j)))), (q_4, .inl (cA, 2 * 2 ^ bw - 1, .inl (fun j => nI ((fun _ => 0) j)))), (q_5, .inl (cA, 2 * 2 ^ bw - 1, .inl (fun j => nI ((fun _ => 0) j))))] := hD
  refine va_putF (D := D) (ci := 4) (v := .ref q_5) (ty := .array .int) (C := "DecodeTests$Tree") (T := F_R) (N := 8) hx hb hT hin_R ft_R ft_R_ok n_R hown hK hP hD hS 0 rfl rfl 5 (by decide) (hT _ q_f_R_28) (fun _ h9 => h9) rfl hin rfl (by decide +kernel) rfl rfl (Nat.le_of_ble_eq_true rfl) d_R_init_47 (fun H locs hP hD hS => ?_)
  have hP : va_P D vwCl [(aR, .inr (4, [.int (nI bw), .ref q_1, .ref q_2, .ref q_3, .ref q_4, .ref q_5, .int (nI 0), .int (nI 0)])), (q_1, .inl (cA, 2 * 2 ^ bw - 1, .inl (fun j => nI ((fun _ => 0) j)))), (q_2, .inl (cA, 2 * 2 ^ bw - 1, .inl (fun j => nI ((fun _ => 0) j)))), (q_3, .inl (cA, 2 * 2 ^ bw - 1, .inl (fun j => nI ((fun _ => 0) j)))), (q_4, .inl (cA, 2 * 2 ^ bw - 1, .inl (fun j => nI ((fun _ => 0) j)))), (q_5, .inl (cA, 2 * 2 ^ bw - 1, .inl (fun j => nI ((fun _ => 0) j))))] H := hP
  have hD : va_D A [(aR, .inr (4, [.int (nI bw), .ref q_1, .ref q_2, .ref q_3, .ref q_4, .ref q_5, .int (nI 0), .int (nI 0)])), (q_1, .inl (cA, 2 * 2 ^ bw - 1, .inl (fun j => nI ((fun _ => 0) j)))), (q_2, .inl (cA, 2 * 2 ^ bw - 1, .inl (fun j => nI ((fun _ => 0) j)))), (q_3, .inl (cA, 2 * 2 ^ bw - 1, .inl (fun j => nI ((fun _ => 0) j)))), (q_4, .inl (cA, 2 * 2 ^ bw - 1, .inl (fun j => nI ((fun _ => 0) j)))), (q_5, .inl (cA, 2 * 2 ^ bw - 1, .inl (fun j => nI ((fun _ => 0) j))))] := hD
  have hP : va_P D vwCl [(aR, .inr (4, [.int (nI bw), .ref q_1, .ref q_2, .ref q_3, .ref q_4, .ref q_5, .int (nI 0), .int (nI 0)])), (q_1, .inl (cA, (2 * 2 ^ bw - 1), .inl (fun j => zz_o ((fun _ => 1) j)))), (q_2, .inl (cA, (2 * 2 ^ bw - 1), .inl (fun j => zz_o ((fun _ => 1) j)))), (q_3, .inl (cA, (2 * 2 ^ bw - 1), .inl (fun j => zz_o ((fun _ => 1) j)))), (q_4, .inl (cA, (2 * 2 ^ bw - 1), .inl (fun j => nI ((fun _ => 0) j)))), (q_5, .inl (cA, (2 * 2 ^ bw - 1), .inl (fun j => nI ((fun _ => 0) j))))] H := hP.sub [0, 1, 2, 3, 4, 5] rfl
  have hD : va_D A [(aR, .inr (4, [.int (nI bw), .ref q_1, .ref q_2, .ref q_3, .ref q_4, .ref q_5, .int (nI 0), .int (nI 0)])), (q_1, .inl (cA, (2 * 2 ^ bw - 1), .inl (fun j => zz_o ((fun _ => 1) j)))), (q_2, .inl (cA, (2 * 2 ^ bw - 1), .inl (fun j => zz_o ((fun _ => 1) j)))), (q_3, .inl (cA, (2 * 2 ^ bw - 1), .inl (fun j => zz_o ((fun _ => 1) j)))), (q_4, .inl (cA, (2 * 2 ^ bw - 1), .inl (fun j => nI ((fun _ => 0) j)))), (q_5, .inl (cA, (2 * 2 ^ bw - 1), .inl (fun j => nI ((fun _ => 0) j))))] := hD.sub [0, 1, 2, 3, 4, 5] (by decide) rfl
  refine W.widen (k := 5) (n := 2555) (by omega) (by omega) ?_
  exact W.vret hx hb hr (fun t ht hW => ⟨⟨(q_1, q_2, q_3, q_4, q_5), rfl, trivial, by rw [ht]; exact hP, va_K.moved hW.alike hK, hD⟩, hS.F ht⟩) hS.2.2 d_R_init_50
