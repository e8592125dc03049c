/-! a method that hands back one of the world's objects; what the whole object does -/
section ZZQ
variable {p : Program} {l : Launch} {e : Env} {R : Room} {s : State} {m : MethodId} {args : Array Value} {below : List Frame} {meth : Method} {c : Code} {H : Heap} {locs : List Loc} {cells slots : Nat} {Q : State → Prop}
variable {y : MethodName} {bytes cc : ByteArray} {maxL nL n index : Nat} {ret : Option FieldType} {ws : List Cond} {rm : Room} {Ts : List Cond} {own C : String} {b : Addr} {As rest st0 : List Value} {pc : Nat} {ls : Array Slot} {D : va_G} {cl : List vw_C} {tys : List (ClassId × FieldType)} {wu wc wr w1 : va_W} {rr : Nat} {A : Nat → Prop} {H0 : Heap} {X : (Nat → Prop) → State → Prop}
theorem zz_wVr (S : CallFix p m c cc nL s args Ts own) (hM : Met l y ws rm (va_Pc (.ref b :: As) (zz_preW D cl tys wc H.size X)) (va_Qr (fun _ : Unit => True) (fun _ a9 t => a9 = rr ∧ zz_post D cl tys (va_A wc H.size) w1 t) (va_A wc H.size)) 0 0 (va_A wc H.size)) (cw : CallW R s args own C index y bytes maxL ret ws rm 0 0 n) (hbX : zz_blindX X) (hK : va_K D cl tys s) (hP : va_P D cl wu H) (hD : va_D A wu) (hS : va_S A H0 H locs) (hA : ∀ q, H0.size ≤ q → A q)
    (isC isR : List Nat) (hC : isC.map (fun i => wu[i]?) = wc.map some) (hR : isR.map (fun i => wu[i]?) = wr.map some) (hnC : va_nd isC = true) (hnR : va_nd isR = true) (hdis : ∀ i ∈ isR, i ∉ isC)
    (hXs : ∀ U : State, U.heap = H → s.WarmedH U.vm → (∀ q, va_A wc H.size q → A q) → X (va_A wc H.size) U)
    (ci : Nat) {T : u_T} {N : Nat} (hc : cl[ci]? = some (C, T, N)) {fs : List Value} (he : wc[0]? = some (b, .inr (ci, fs))) (hn : As.length = n) (hsize : ls.size = nL) (hst : st0 = As.reverse ++ .ref b :: rest) (hW : (rest.map fun v => v.category).sum ≤ 8) (hdg : decode cc pc = .ok (.invokevirtual index, 3)) (hf : cells ≤ R.cells ∧ slots ≤ R.slots)
    (kk : ∀ (H1 : Heap) (locs1 : List Loc), va_P D cl (wr ++ w1) H1 → va_D A (wr ++ w1) → va_S A H0 H1 locs1 → W p l e R s m args below meth c H1 locs1 cells slots Q (F0 m (pc + 3) ls (.ref rr :: rest))) : W p l e R s m args below meth c H locs cells slots Q (F0 m pc ls st0) := by
  subst hst
  have hPc := zz_Psub hP isC hC
  have hDc := hD.sub isC hnC hC
  have hFc := va_free (wc := wc) hD hS hA isC hC
  refine va_callr (va_runV S hM cw ⟨zz_preW_blind hbX, va_recv hK hPc hc he, fun U hU hW => ⟨rfl, by rw [hU], by rw [hU]; exact hPc, va_K.moved hW.alike hK, hDc.weaken (fun _ _ _ _ => trivial), hXs U hU hW hFc⟩⟩ rfl hn hsize rfl (lv_room hW) hdg hf) hS (fun q _ h => hFc q h) hFc (fun u ra t H1 locs1 ht hvm hw hB hz1 hk1 hS1 => ?_)
  obtain ⟨e9, hP1, hK1, hD1⟩ := hB
  rw [ht] at hP1
  obtain ⟨hP2, hD2⟩ := va_join (wr := wr) (w1 := w1) hP hD isC isR hC hR hnR hdis hk1 hFc hP1 hD1
  rw [e9]
  exact kk H1 locs1 hP2 hD2 hS1
end ZZQ
def zD_isW (bw : Nat) (x : Int32) : Bool := !decide (x < 0) && !decide (nI (1 * 2 ^ bw) ≤ x)
def zD_isF (x : Int32) : Bool := !decide (x < 0) && !decide (nI 255 < x)
def zD_isK (x : Int32) : Bool := !decide (x < 0) && !decide (nI 2 < x)
/-- what growing needs of the tables -/
def zD_grow (bw ww G M kind : Nat) (lz : Nat → Nat) (cur : Bool) (q : zTt) : Prop :=
  (∀ i, i < G → zT_okat bw ww i) ∧ (∀ i, i ≤ G → zT_bnd (zT_fill bw lz i q)) ∧ zT_bnd (zT_ref bw G lz cur q) ∧ 1 ≤ G ∧
  ∃ V : Nat → Nat → Prop, zT_V bw G (zT_ref bw G lz cur q).1 (zT_ref bw G lz cur q).2.1 (zT_ref bw G lz cur q).2.2 kind V ∧ V (G - 1) 0 ∧
    (∀ g d, V g d → zT_choice bw (zT_ref bw G lz cur q).1 (zT_ref bw G lz cur q).2.1 (zT_ref bw G lz cur q).2.2 kind g d = 0 → ¬ (zT_ref bw G lz cur q).1 g = 0) ∧
    zR_cnt (zT_choice bw (zT_ref bw G lz cur q).1 (zT_ref bw G lz cur q).2.1 (zT_ref bw G lz cur q).2.2 kind) (bw + 1) (G - 1) 0 ≤ M
abbrev zDg : Type := zTt × Bool × zRt
/-- the tables and the tree behind a look at the tree -/
def zD_look (bw G kind : Nat) (lz : Nat → Nat) (g : zDg) : zDg :=
  if g.2.2.2.2.2.2.2.1 = 0 then (zT_ref bw G lz g.2.1 g.1, true, zR_grow (zT_choice bw (zT_ref bw G lz g.2.1 g.1).1 (zT_ref bw G lz g.2.1 g.1).2.1 (zT_ref bw G lz g.2.1 g.1).2.2 kind) (zT_ref bw G lz g.2.1 g.1).1 (bw + 1) (G - 1) 0 g.2.2)
  else g
theorem zD_look_y {bw G kind : Nat} {lz : Nat → Nat} {g : zDg} (h : g.2.2.2.2.2.2.2.1 = 0) : zD_look bw G kind lz g = (zT_ref bw G lz g.2.1 g.1, true, zR_grow (zT_choice bw (zT_ref bw G lz g.2.1 g.1).1 (zT_ref bw G lz g.2.1 g.1).2.1 (zT_ref bw G lz g.2.1 g.1).2.2 kind) (zT_ref bw G lz g.2.1 g.1).1 (bw + 1) (G - 1) 0 g.2.2) := if_pos h
theorem zD_look_n {bw G kind : Nat} {lz : Nat → Nat} {g : zDg} (h : ¬ g.2.2.2.2.2.2.2.1 = 0) : zD_look bw G kind lz g = g := if_neg h
/-- what a tree must be for looks at it -/
def zD_tree (bw M : Nat) (r : zRt) : Prop := (∃ U : Nat → Prop, zR_U M r.1 r.2.1 r.2.2.1 U ∧ U 0 ∧ ∀ w, zR_leaf r.1 r.2.1 r.2.2.1 w bw 0 < M) ∧ (∀ k, r.2.2.2.2.1 k < 16384) ∧ (∀ k, r.2.2.2.1 k ≤ bw) ∧ r.2.2.2.2.2.1 ≤ M
abbrev zDk : Type := (Nat → Nat) × (Nat → Nat) × (Nat → Nat) × Nat
def zK_put (k : zDk) (w fl an : Nat) : zDk := (zz_up k.1 (w &&& 15) (w + 1), zz_up k.2.1 (w &&& 15) fl, zz_up k.2.2.1 (w &&& 15) an, if k.1 (w &&& 15) = 0 then k.2.2.2 + 1 else k.2.2.2)
/-- tables and tree, kept answers, counters (hits, by the tree, tests), the answer -/
abbrev zDa : Type := zDg × zDk × (Nat × Nat × Nat) × Nat
def zD_leaf (bw w : Nat) (r : zRt) : Nat := zR_leaf r.1 r.2.1 r.2.2.1 w bw 0
def zD_an (bw n w fl : Nat) (cd : Nat → Nat) (g : zDg) : Nat := zE_ofList cd n (g.2.2.2.2.2.2.1 (zD_leaf bw w g.2.2)) fl
def zD_ans (bw G n kind w fl : Nat) (cd lz : Nat → Nat) (g : zDg) (k : zDk) (c : Nat × Nat × Nat) : zDa :=
  if zK_holds k.1 k.2.1 w fl = true then (g, k, (c.1 + 1, c.2.1, c.2.2), k.2.2.1 (w &&& 15))
  else (zD_look bw G kind lz g, zK_put k w fl (zD_an bw n w fl cd (zD_look bw G kind lz g)), (c.1, c.2.1 + 1, c.2.2 + (zD_look bw G kind lz g).2.2.2.2.2.1 (zD_leaf bw w (zD_look bw G kind lz g).2.2)), zD_an bw n w fl cd (zD_look bw G kind lz g))
theorem zD_ans_y {bw G n kind w fl : Nat} {cd lz : Nat → Nat} {g : zDg} {k : zDk} {c : Nat × Nat × Nat} (h : zK_holds k.1 k.2.1 w fl = true) : zD_ans bw G n kind w fl cd lz g k c = (g, k, (c.1 + 1, c.2.1, c.2.2), k.2.2.1 (w &&& 15)) := if_pos h
theorem zD_ans_n {bw G n kind w fl : Nat} {cd lz : Nat → Nat} {g : zDg} {k : zDk} {c : Nat × Nat × Nat} (h : zK_holds k.1 k.2.1 w fl = false) : zD_ans bw G n kind w fl cd lz g k c = (zD_look bw G kind lz g, zK_put k w fl (zD_an bw n w fl cd (zD_look bw G kind lz g)), (c.1, c.2.1 + 1, c.2.2 + (zD_look bw G kind lz g).2.2.2.2.2.1 (zD_leaf bw w (zD_look bw G kind lz g).2.2)), zD_an bw n w fl cd (zD_look bw G kind lz g)) := if_neg (by rw [h]; decide)
