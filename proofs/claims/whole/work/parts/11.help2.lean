/-! constructors: calls of them; the world grows -/
section ZZI
variable {p : Program} {l : Launch} {e : Env} {R : Room} {s : State} {m : MethodId} {args : Array Value} {below : List Frame} {meth : Method} {c : Code} {H : Heap} {locs : List Loc} {cells slots : Nat} {Q : State → Prop}
variable {y : MethodName} {bytes cc : ByteArray} {maxL nL n index mc ms : Nat} {ws : List Cond} {rm : Room} {Ts : List Cond} {own : String} {b : Addr} {As rest st0 : List Value} {pc : Nat} {ls : Array Slot} {D : va_G} {cl : List vw_C} {tys : List (ClassId × FieldType)} {wu wc wr : va_W} {A : Nat → Prop} {H0 : Heap} {X : (Nat → Prop) → State → Prop}
theorem zz_wI {S : Type} {f : S → va_W} (F : CallFix p m c cc nL s args Ts own) (hM : Met l y ws rm (va_Pc (.ref b :: As) (zz_preW D cl tys wc H.size X)) (va_Qv (fun _ : S => True) (fun u => zz_post D cl tys (va_A wc H.size) (f u)) (va_A wc H.size)) mc ms (va_A wc H.size)) (cw : CallB R s args own index y bytes maxL none ws rm mc ms n ∧ y.name = "<init>" ∧ (Cond.instanceMethod y).before args s = true) (hbX : zz_blindX X) (hK : va_K D cl tys s) (hP : va_P D cl wu H) (hD : va_D A wu) (hS : va_S A H0 H locs) (hA : ∀ q, H0.size ≤ q → A q)
    (isC isR : List Nat) (hC : isC.map (fun i => wu[i]?) = wc.map some) (hR : isR.map (fun i => wu[i]?) = wr.map some) (hnC : va_nd isC = true) (hnR : va_nd isR = true) (hdis : ∀ i ∈ isR, i ∉ isC)
    (hXs : ∀ U : State, U.heap = H → s.WarmedH U.vm → (∀ q, va_A wc H.size q → A q) → X (va_A wc H.size) U)
    (hn : As.length = n) (hsize : ls.size = nL) (hst : st0 = As.reverse ++ .ref b :: rest) (hW : (rest.map fun v => v.category).sum ≤ 8) (hdg : decode cc pc = .ok (.invokespecial index, 3)) (hf : cells + mc ≤ R.cells ∧ slots + ms ≤ R.slots)
    (kk : ∀ (u : S) (H1 : Heap) (locs1 : List Loc), va_P D cl (wr ++ f u) H1 → va_D A (wr ++ f u) → va_S A H0 H1 locs1 → W p l e R s m args below meth c H1 locs1 (cells + mc) (slots + ms) Q (F0 m (pc + 3) ls rest)) : W p l e R s m args below meth c H locs cells slots Q (F0 m pc ls st0) := by
  subst hst
  have hPc := zz_Psub hP isC hC
  have hDc := hD.sub isC hnC hC
  have hFc := va_free (wc := wc) hD hS hA isC hC
  refine va_callv (va_runI F hM cw ⟨zz_preW_blind hbX, fun U hU hW => ⟨rfl, by rw [hU], by rw [hU]; exact hPc, va_K.moved hW.alike hK, hDc.weaken (fun _ _ _ _ => trivial), hXs U hU hW hFc⟩⟩ rfl hn hsize rfl (lv_room hW) hdg hf) hS (fun q _ h => hFc q h) hFc (fun u t H1 locs1 ht hvm hw hB hz1 hk1 hS1 => ?_)
  obtain ⟨hP1, hK1, hD1⟩ := hB
  rw [ht] at hP1
  obtain ⟨hP2, hD2⟩ := va_join (wr := wr) (w1 := f u) hP hD isC isR hC hR hnR hdis hk1 hFc hP1 hD1
  exact kk u H1 locs1 hP2 hD2 hS1
theorem zz_wIN {S : Type} {f : S → va_W} {host : String} (F : CallFix p m c cc nL s args Ts own) (hM : Met l y ws rm (va_Pc (.ref b :: As) (zz_preW D cl tys wc H.size X)) (va_Qv (fun _ : S => True) (fun u => zz_post D cl tys (va_A wc H.size) (f u)) (va_A wc H.size)) mc ms (va_A wc H.size)) (cw : va_CN R s args own index y host bytes maxL none ws rm mc ms n ∧ y.name = "<init>" ∧ (Cond.instanceMethod y).before args s = true) (hbX : zz_blindX X) (hK : va_K D cl tys s) (hP : va_P D cl wu H) (hD : va_D A wu) (hS : va_S A H0 H locs) (hA : ∀ q, H0.size ≤ q → A q)
    (isC isR : List Nat) (hC : isC.map (fun i => wu[i]?) = wc.map some) (hR : isR.map (fun i => wu[i]?) = wr.map some) (hnC : va_nd isC = true) (hnR : va_nd isR = true) (hdis : ∀ i ∈ isR, i ∉ isC)
    (hXs : ∀ U : State, U.heap = H → s.WarmedH U.vm → (∀ q, va_A wc H.size q → A q) → X (va_A wc H.size) U)
    (hn : As.length = n) (hsize : ls.size = nL) (hst : st0 = As.reverse ++ .ref b :: rest) (hW : (rest.map fun v => v.category).sum ≤ 8) (hdg : decode cc pc = .ok (.invokespecial index, 3)) (hf : cells + mc ≤ R.cells ∧ slots + ms ≤ R.slots)
    (kk : ∀ (u : S) (H1 : Heap) (locs1 : List Loc), va_P D cl (wr ++ f u) H1 → va_D A (wr ++ f u) → va_S A H0 H1 locs1 → W p l e R s m args below meth c H1 locs1 (cells + mc) (slots + ms) Q (F0 m (pc + 3) ls rest)) : W p l e R s m args below meth c H locs cells slots Q (F0 m pc ls st0) := by
  subst hst
  have hPc := zz_Psub hP isC hC
  have hDc := hD.sub isC hnC hC
  have hFc := va_free (wc := wc) hD hS hA isC hC
  refine va_callv (va_runIN F hM cw ⟨zz_preW_blind hbX, fun U hU hW => ⟨rfl, by rw [hU], by rw [hU]; exact hPc, va_K.moved hW.alike hK, hDc.weaken (fun _ _ _ _ => trivial), hXs U hU hW hFc⟩⟩ rfl hn hsize rfl (lv_room hW) hdg hf) hS (fun q _ h => hFc q h) hFc (fun u t H1 locs1 ht hvm hw hB hz1 hk1 hS1 => ?_)
  obtain ⟨hP1, hK1, hD1⟩ := hB
  rw [ht] at hP1
  obtain ⟨hP2, hD2⟩ := va_join (wr := wr) (w1 := f u) hP hD isC isR hC hR hnR hdis hk1 hFc hP1 hD1
  exact kk u H1 locs1 hP2 hD2 hS1
end ZZI
theorem q_oi_i : Cond.instanceMethod Lib.objectInit ∈ zz_T := by decide +kernel
theorem q_oi_c : Cond.code Lib.objectInit ⟨#[0xb1]⟩ 1 none ∈ zz_T := by decide +kernel
theorem zz_3le {b : Nat} (h : b ≤ 8) : 3 ^ b ≤ 6561 := Nat.pow_le_pow_right (n := 3) (by decide) h
