/-! the law: rows that its walk lacks; what its world is -/
section ZLW
variable {p : Program} {l : Launch} {e : Env} {R : Room} {s : State} {m : MethodId} {args : Array Value} {below : List Frame} {meth : Method} {c : Code} {H : Heap} {locs : List Loc} {cells slots : Nat} {Q : State → Prop}
variable {cc : ByteArray} {pc : Nat} {ls : Array Slot} {rest : List Value}
theorem zL_lcmp0 (hexec : p.tables.exec = Jvm.exec) (hb : c.code = cc) {x y : Int64} (hdg : decode cc pc = .ok (.lcmp, 1)) (h : x = y)
    (k : W p l e R s m args below meth c H locs cells slots Q (F0 m (pc + 1) ls (.int (nI 0) :: rest))) : W p l e R s m args below meth c H locs cells slots Q (F0 m pc ls (.long y :: .long x :: rest)) := by
  subst h
  intro T hT X
  obtain ⟨t, a, b⟩ := k T hT X
  refine ⟨t, ?_, b⟩
  jvm_step X.here [X.here.top, hexec, hb, hdg, Int64.lt_irrefl]
  exact a
theorem zL_topl {x y : Int64} (h : x = y) (k : W p l e R s m args below meth c H locs cells slots Q (F0 m pc ls (.long y :: rest))) : W p l e R s m args below meth c H locs cells slots Q (F0 m pc ls (.long x :: rest)) := h ▸ k
end ZLW
theorem zL_out {f : Nat → Int64} {x : Int64} : vp_updL f (nI 0).toNatClampNeg x (nI 0).toNatClampNeg = x := if_pos rfl
theorem zL_64 {x y : Int32} (h : x = y) : x.toInt64 = y.toInt64 := by rw [h]
theorem zL_arr {args : Array Value} {s : State} (ty : FieldType) (hty : ∀ C, ty ≠ .object C) (h : (Cond.arrayClass ty).before args s = true) : ∃ cA : ClassId, ArrOfT s cA ty ∧ va_RA s cA ty := by
  obtain ⟨cA, kA, comp, h1, h2, h3⟩ := Cond.arrayClass_spec h
  refine ⟨cA, fun n z => ⟨fun k h => (by cases h), kA, h2, comp, h3⟩, ?_⟩
  cases ty with
  | object C => exact absurd rfl (hty C)
  | _ => exact h1
theorem zL_lt {b L : Nat} {xs : Nat → Int32} {U : State} {H : Heap} (h : va_X b L xs U H) : b < H.size := by
  obtain ⟨scr, h1, -⟩ := h
  exact (Array.getElem?_eq_some_iff.mp h1).1
def zL_X (b L : Nat) (xs : Nat → Int32) : (Nat → Prop) → State → Prop := fun _ U => va_X b L xs U U.heap
theorem zL_blind (b L : Nat) (xs : Nat → Int32) : zz_blindX (zL_X b L xs) := fun _ U g mk a h => va_X.moved (u := U) (U := U.calling g mk a) (Vm.Alike.refl U.vm) h
theorem zL_use {b L : Nat} {xs : Nat → Int32} {A B : Nat → Prop} {s U : State} {H : Heap} {locs : List Loc} (h : va_X b L xs s s.heap) (hbA : ¬ A b) (hS : va_S A s.heap H locs) (hU : U.heap = H) (hW : s.WarmedH U.vm) : zL_X b L xs B U := by
  show va_X b L xs U U.heap
  rw [hU]
  exact va_X.moved hW.alike (va_X.kept h (hS.2.1 b (zL_lt h) hbA))
def zL_c0 (L : Nat) (xs : Nat → Int32) : Int32 := if 0 < L then xs 0 else nI 0
theorem zL_and15 (x : Int32) : x &&& nI 15 = nI (x.toBitVec.toNat % 16) := by
  have e := zz_self x
  generalize x.toBitVec.toNat = n at e ⊢
  subst e
  rw [zz_and, show (15 : Nat) = 2 ^ 4 - 1 by decide, Nat.and_two_pow_sub_one_eq_mod]
theorem zL_cmp {L i : Nat} (hL : L ≤ 2561) (hi : i ≤ 3000) : (nI L - nI 5 < nI i) = (L < i + 5) := by
  have e : (nI L - nI 5).toInt = (L : Int) - 5 := by
    rw [Int32.toInt_sub, nI_toInt (by omega), nI_toInt (by omega)]
    exact Int.bmod_eq_of_le (by omega) (by omega)
  apply propext
  rw [Int32.lt_iff_toInt_lt, e, nI_toInt (by omega)]
  omega
theorem q_arrL : Cond.arrayClass .long ∈ zz_T := by decide +kernel
section ZLN
variable {p : Program} {l : Launch} {e : Env} {R : Room} {s : State} {m : MethodId} {args : Array Value} {below : List Frame} {meth : Method} {c : Code} {H : Heap} {locs : List Loc} {cells slots : Nat} {Q : State → Prop}
variable {cc : ByteArray} {pc : Nat} {ls : Array Slot} {rest : List Value} {D : va_G} {cl : List vw_C} {A : Nat → Prop} {cA cL : ClassId} {ws : va_W} {H0 : Heap}
theorem zL_newl (hexec : p.tables.exec = Jvm.exec) (hb : c.code = cc) (harr : (Cond.arrayClass .long).before args s = true) (hK : va_K D cl [(cA, .int), (cL, .long)] s) (hP : va_P D cl ws H) (hD : va_D A ws) (hS : va_S A H0 H locs) (hA : ∀ q, H0.size ≤ q → A q)
    (hcells : cells + 1 ≤ R.cells) (hslots : slots + 1 ≤ R.slots) (hdg : decode cc pc = .ok (.newarray .long, 2))
    (kk : ∀ (q : Nat) (H1 : Heap), va_P D cl (ws ++ [(q, .inl (cL, 1, .inr (.inl (fun _ => 0))))]) H1 → va_D A (ws ++ [(q, .inl (cL, 1, .inr (.inl (fun _ => 0))))]) → va_S A H0 H1 locs → W p l e R s m args below meth c H1 locs (cells + 1) (slots + 1) Q (F0 m (pc + 2) ls (.ref q :: rest))) : W p l e R s m args below meth c H locs cells slots Q (F0 m pc ls (.int (nI 1) :: rest)) := by
  refine va_newa (atype := .long) (ty := .long) (N' := 1) (a0 := (1, .inr (.inl (fun _ => 0)))) hexec hb harr rfl hK hP hD hS hA (fun cA => rfl) (nI_pos (by omega)) (nI_clamp (by omega)) (by decide) hcells hslots hdg (fun q cB H1 hK1 hP1 hD1 hS1 => ?_)
  have h1 : s.vm.findClass _ = some cB := (hK1.2 2 _ rfl).2
  have h0 : s.vm.findClass _ = some cL := (hK.2 1 _ rfl).2
  have e1 : cB = cL := Option.some.inj (h1.symm.trans h0)
  subst e1
  exact kk q H1 hP1 hD1 hS1
end ZLN
