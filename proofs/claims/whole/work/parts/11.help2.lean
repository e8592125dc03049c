/-! constructors: calls of them; the world grows -/
section ZZI
variable {p : Program} {l : Launch} {e : Env} {R : Room} {s : State} {m : MethodId} {args : Array Value} {below : List Frame} {meth : Method} {c : Code} {H : Heap} {locs : List Loc} {cells slots : Nat} {Q : State → Prop}
variable {y : MethodName} {bytes cc : ByteArray} {maxL nL n index mc ms : Nat} {ws : List Cond} {rm : Room} {Ts : List Cond} {own : String} {b : Addr} {As rest st0 : List Value} {pc : Nat} {ls : Array Slot} {D : va_G} {cl : List vw_C} {tys : List (ClassId × FieldType)} {wu wc wr : va_W} {A : Nat → Prop} {H0 : Heap} {X : (Nat → Prop) → State → Prop}
theorem zz_wI {S : Type} {f : S → va_W} (F : CallFix p m c cc nL s args Ts own) (hM : Met l y ws rm (va_Pc (.ref b :: As) (zz_preW D cl tys wc H.size X)) (va_Qv (fun _ : S => True) (fun u => zz_post D cl tys (va_A wc H.size) (f u)) (va_A wc H.size)) mc ms (va_A wc H.size)) (cw : CallB R s args own index y bytes maxL none ws rm mc ms n ∧ y.name = "<init>" ∧ (Cond.instanceMethod y).before args s = true) (hbX : zz_blindX X) (hK : va_K D cl tys s) (hP : va_P D cl wu H) (hD : va_D A wu) (hS : va_S A H0 H locs) (hA : ∀ q, H0.size ≤ q → A q)
    (isC isR : List Nat) (hC : isC.map (fun i => wu[i]?) = wc.map some) (hR : isR.map (fun i => wu[i]?) = wr.map some) (hnC : va_nd isC = true) (hnR : va_nd isR = true) (hdis : ∀ i ∈ isR, i ∉ isC)
    (hXs : ∀ U : State, U.heap = H → s.WarmedH U.vm → (∀ q, va_A wc H.size q → A q) → X (va_A wc H.size) U)
    (hn : As.length = n) (hsize : ls.size = nL) (hst : st0 = As.reverse ++ .ref b :: rest) (hW : (rest.map fun v => v.category).sum ≤ 8) (hdg : decode cc pc = .ok (.invokespecial index, 3)) (hf : cells + mc ≤ R.cells ∧ slots + ms ≤ R.slots)
    (kk : ∀ (u : S) (H1 : Heap) (locs1 : List Loc), va_P D cl (wr ++ f u) H1 → va_D A (wr ++ f u) → va_S A H0 H1 locs1 → W p l e R s m args below meth c H1 locs1 (cells + mc) (slots + ms) Q (F0 m (pc + 3) ls rest)) : W p l e R s m args below meth c H locs cells slots Q (F0 m pc ls st0) := by
  subst hst
  have hPc := zz_Psub hP isC hC
  have hDc := hD.sub isC hnC hC
  have hFc := va_free (wc := wc) hD hS hA isC hC
  refine va_callv (va_runI F hM cw ⟨zz_preW_blind hbX, fun U hU hW => ⟨rfl, by rw [hU], by rw [hU]; exact hPc, va_K.moved hW.alike hK, hDc.weaken (fun _ _ _ _ => trivial), hXs U hU hW hFc⟩⟩ rfl hn hsize rfl (lv_room hW) hdg hf) hS (fun q _ h => hFc q h) hFc (fun u t H1 locs1 ht hvm hw hB hz1 hk1 hS1 => ?_)
  obtain ⟨hP1, hK1, hD1⟩ := hB
  rw [ht] at hP1
  obtain ⟨hP2, hD2⟩ := va_join (wr := wr) (w1 := f u) hP hD isC isR hC hR hnR hdis hk1 hFc hP1 hD1
  exact kk u H1 locs1 hP2 hD2 hS1
theorem zz_wIN {S : Type} {f : S → va_W} {host : String} (F : CallFix p m c cc nL s args Ts own) (hM : Met l y ws rm (va_Pc (.ref b :: As) (zz_preW D cl tys wc H.size X)) (va_Qv (fun _ : S => True) (fun u => zz_post D cl tys (va_A wc H.size) (f u)) (va_A wc H.size)) mc ms (va_A wc H.size)) (cw : va_CN R s args own index y host bytes maxL none ws rm mc ms n ∧ y.name = "<init>" ∧ (Cond.instanceMethod y).before args s = true) (hbX : zz_blindX X) (hK : va_K D cl tys s) (hP : va_P D cl wu H) (hD : va_D A wu) (hS : va_S A H0 H locs) (hA : ∀ q, H0.size ≤ q → A q)
    (isC isR : List Nat) (hC : isC.map (fun i => wu[i]?) = wc.map some) (hR : isR.map (fun i => wu[i]?) = wr.map some) (hnC : va_nd isC = true) (hnR : va_nd isR = true) (hdis : ∀ i ∈ isR, i ∉ isC)
    (hXs : ∀ U : State, U.heap = H → s.WarmedH U.vm → (∀ q, va_A wc H.size q → A q) → X (va_A wc H.size) U)
    (hn : As.length = n) (hsize : ls.size = nL) (hst : st0 = As.reverse ++ .ref b :: rest) (hW : (rest.map fun v => v.category).sum ≤ 8) (hdg : decode cc pc = .ok (.invokespecial index, 3)) (hf : cells + mc ≤ R.cells ∧ slots + ms ≤ R.slots)
    (kk : ∀ (u : S) (H1 : Heap) (locs1 : List Loc), va_P D cl (wr ++ f u) H1 → va_D A (wr ++ f u) → va_S A H0 H1 locs1 → W p l e R s m args below meth c H1 locs1 (cells + mc) (slots + ms) Q (F0 m (pc + 3) ls rest)) : W p l e R s m args below meth c H locs cells slots Q (F0 m pc ls st0) := by
  subst hst
  have hPc := zz_Psub hP isC hC
  have hDc := hD.sub isC hnC hC
  have hFc := va_free (wc := wc) hD hS hA isC hC
  refine va_callv (va_runIN F hM cw ⟨zz_preW_blind hbX, fun U hU hW => ⟨rfl, by rw [hU], by rw [hU]; exact hPc, va_K.moved hW.alike hK, hDc.weaken (fun _ _ _ _ => trivial), hXs U hU hW hFc⟩⟩ rfl hn hsize rfl (lv_room hW) hdg hf) hS (fun q _ h => hFc q h) hFc (fun u t H1 locs1 ht hvm hw hB hz1 hk1 hS1 => ?_)
  obtain ⟨hP1, hK1, hD1⟩ := hB
  rw [ht] at hP1
  obtain ⟨hP2, hD2⟩ := va_join (wr := wr) (w1 := f u) hP hD isC isR hC hR hnR hdis hk1 hFc hP1 hD1
  exact kk u H1 locs1 hP2 hD2 hS1
end ZZI
theorem q_oi_i : Cond.instanceMethod Lib.objectInit ∈ zz_T := by decide +kernel
theorem q_oi_c : Cond.code Lib.objectInit ⟨#[0xb1]⟩ 1 none ∈ zz_T := by decide +kernel
theorem zz_3le {b : Nat} (h : b ≤ 8) : 3 ^ b ≤ 6561 := Nat.pow_le_pow_right (n := 3) (by decide) h
/-! the rest by 8 -/
theorem zz_self (x : Int32) : x = nI x.toBitVec.toNat := by
  apply Int32.toBitVec_inj.1
  show x.toBitVec = BitVec.ofNat 32 x.toBitVec.toNat
  rw [BitVec.ofNat_toNat, BitVec.setWidth_eq]
theorem zz_sgn (x : Int32) : (0 ≤ x ^^^ nI 8) = (x.toBitVec.toNat < 2 ^ 31) := by
  have h1 : (x ^^^ nI 8).toBitVec.msb = x.toBitVec.msb := by
    rw [Int32.toBitVec_xor, BitVec.msb_xor, show (nI 8).toBitVec.msb = false by decide, Bool.xor_false]
  rw [BitVec.msb_eq_decide, BitVec.msb_eq_decide] at h1
  have h2 : (0 : Int32).toInt = 0 := by decide
  have h3 : (x ^^^ nI 8).toInt < 0 ↔ 2 ^ 32 ≤ 2 * (x ^^^ nI 8).toBitVec.toNat := BitVec.toInt_neg_iff
  have h4 := decide_eq_decide.mp h1
  apply propext
  rw [Int32.le_iff_toInt_le, h2]
  constructor
  · intro h; omega
  · intro h; omega
theorem zz_tdiv8 (z : Int) : z.tdiv 8 = if 0 ≤ z then z / 8 else -((-z) / 8) := by
  split
  · next h => exact Int.tdiv_eq_ediv_of_nonneg h
  · next h =>
    have e : z.tdiv 8 = (-(-z)).tdiv 8 := by rw [Int.neg_neg]
    rw [e, Int.neg_tdiv, Int.tdiv_eq_ediv_of_nonneg (by omega)]
theorem zz_rem8 (x : Int32) : (x - x / nI 8 * nI 8).toInt = x.toInt - x.toInt.tdiv 8 * 8 := by
  have h8 : (nI 8).toInt = 8 := by decide
  have hd : (x / nI 8).toInt = x.toInt.tdiv 8 := by rw [Int32.toInt_div_of_ne_right _ _ (by decide), h8]
  have b1 := x.toInt_lt
  have b2 := x.le_toInt
  have hk := zz_tdiv8 x.toInt
  generalize x.toInt.tdiv 8 = q at hd hk ⊢
  have hq : -268435456 ≤ q ∧ q ≤ 268435456 := by split at hk <;> omega
  have hm : (x / nI 8 * nI 8).toInt = q * 8 := by
    rw [Int32.toInt_mul, hd, h8]
    exact Int.bmod_eq_of_le (by omega) (by split at hk <;> omega)
  rw [Int32.toInt_sub, hm]
  exact Int.bmod_eq_of_le (by split at hk <;> omega) (by split at hk <;> omega)
theorem zz_toInt_neg {x : Int32} (h : ¬ x.toBitVec.toNat < 2 ^ 31) : x.toInt = (x.toBitVec.toNat : Int) - 4294967296 := by
  show x.toBitVec.toInt = _
  rw [BitVec.toInt_eq_toNat_cond, if_neg (by omega)]
  rfl
theorem zz_fmA {x : Int32} (h : x.toBitVec.toNat < 2 ^ 31) : x - x / nI 8 * nI 8 = nI (x.toBitVec.toNat % 8) := by
  have e := zz_self x
  generalize x.toBitVec.toNat = n at e h ⊢
  subst e
  exact pk_rem h (by decide) (by decide)
theorem zz_fmN {x : Int32} (h : ¬ x.toBitVec.toNat < 2 ^ 31) : (x - x / nI 8 * nI 8).toInt = -((4294967296 - (x.toBitVec.toNat : Int)) % 8) := by
  have b := x.toBitVec.isLt
  rw [zz_rem8, zz_tdiv8, zz_toInt_neg h, if_neg (by omega)]
  omega
theorem zz_fmB {x : Int32} (h : ¬ x.toBitVec.toNat < 2 ^ 31) (h0 : x - x / nI 8 * nI 8 = 0) : x - x / nI 8 * nI 8 = nI (x.toBitVec.toNat % 8) := by
  have a := zz_fmN h
  have b := x.toBitVec.isLt
  rw [h0] at a ⊢
  have e0 : (0 : Int32).toInt = 0 := by decide
  rw [show x.toBitVec.toNat % 8 = 0 by omega]
  rfl
theorem zz_fmC {x : Int32} (h : ¬ x.toBitVec.toNat < 2 ^ 31) (h0 : ¬ x - x / nI 8 * nI 8 = 0) : x - x / nI 8 * nI 8 + nI 8 = nI (x.toBitVec.toNat % 8) := by
  have a := zz_fmN h
  have b := x.toBitVec.isLt
  have h8 : (nI 8).toInt = 8 := by decide
  have e0 : (0 : Int32).toInt = 0 := by decide
  have hne : ¬ (x - x / nI 8 * nI 8).toInt = 0 := fun q => h0 (Int32.toInt_inj.mp (by rw [q, e0]))
  apply Int32.toInt_inj.mp
  rw [Int32.toInt_add, h8, nI_toInt (by omega)]
  generalize (x - x / nI 8 * nI 8).toInt = r at a hne ⊢
  rw [Int.bmod_eq_of_le (by omega) (by omega)]
  omega
/-- the width that a bits argument gives -/
def zz_W (x : Int32) : Nat := 1 + (x - nI 1).toBitVec.toNat % 8
theorem zz_W_le (x : Int32) : 1 ≤ zz_W x ∧ zz_W x ≤ 8 := by unfold zz_W; omega
def zz_sd (t : Nat) : (Nat → Prop) → State → Prop := fun A U => zz_st t A U ∧ va_Nw (.methodLinkNest "DecodeTests" 51 y_W_init "DecodeTests") U
theorem zz_blind_sd (t : Nat) : zz_blindX (zz_sd t) := fun A U g mk a h => ⟨zz_blind_st t A U g mk a h.1, va_tabs (A := #[]) (u := U) (U := U.calling g mk a) rfl rfl h.2⟩
