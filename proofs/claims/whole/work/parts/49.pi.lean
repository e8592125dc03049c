/-! what each call does to both -/
theorem zP_cnt_le16 {P : Nat → Bool} : ∀ (r i : Nat), zz_cnt P i r ≤ r
  | 0, _ => Nat.le_refl 0
  | r + 1, i => by
    have := zP_cnt_le16 (P := P) r (i + 1)
    have := zz_b_le (P i)
    rw [zz_cnt]; omega
theorem zP_cnt_up {f : Nat → Nat} {k x : Nat} (hx : ¬ x = 0) : ∀ (r i : Nat), zz_cnt (fun j => !decide (zz_up f k x j = 0)) i r = zz_cnt (fun j => !decide (f j = 0)) i r + (if i ≤ k ∧ k < i + r ∧ f k = 0 then 1 else 0)
  | 0, i => by rw [if_neg (by omega)]; rfl
  | r + 1, i => by
    rw [zz_cnt, zz_cnt, zP_cnt_up hx r (i + 1)]
    by_cases e : i = k
    · subst e
      rw [zz_up_s, decide_eq_false hx, if_neg (show ¬ (i + 1 ≤ i ∧ i < i + 1 + r ∧ f i = 0) by omega)]
      by_cases z : f i = 0
      · rw [if_pos ⟨by omega, by omega, z⟩, decide_eq_true z]
        show 1 + (_ + 0) = 0 + _ + 1
        omega
      · rw [if_neg (fun y => z y.2.2), decide_eq_false z]; rfl
    · rw [zz_up_n e]
      by_cases z : i + 1 ≤ k ∧ k < i + 1 + r ∧ f k = 0
      · rw [if_pos z, if_pos (show i ≤ k ∧ k < i + (r + 1) ∧ f k = 0 from ⟨by omega, by omega, z.2.2⟩)]; omega
      · rw [if_neg z, if_neg (fun y => z ⟨by omega, by omega, y.2.2⟩)]; rfl
theorem zP_cnt_clr {f : Nat → Nat} : zz_cnt (fun j => !decide (zz_clr f 16 j = 0)) 0 16 = 0 := by
  have : zz_cnt (fun j => !decide (zz_clr f 16 j = 0)) 0 16 = zz_cnt (fun _ => false) 0 16 := zz_cnt_congr 16 0 (fun j _ h => by
    show (!decide ((if j < 16 then 0 else f j) = 0)) = false
    rw [if_pos (by omega)]; rfl)
  rw [this]; rfl
theorem zP_clr_le {f : Nat → Nat} {m : Nat} (h : ∀ j, f j ≤ m) : ∀ j, zz_clr f 16 j ≤ m := fun j => by
  unfold zz_clr
  split
  · exact Nat.zero_le m
  · exact h j
section ZPJ
variable {W n un kind : Nat} {mk vl ln cd lz : Nat → Nat} {g : zDg} {kk : zDk} {ws wn : Nat} {rg : Nat → Nat} {li2 ls2 al2 : Nat → Nat} {p : zMf} {nd : Nat} {se ze no wd : Nat → Nat}
theorem zP_I.leaf (h : zP_I W n un kind mk vl ln cd lz g kk ws wn rg li2 ls2 al2 p nd se ze no wd) (w : Nat) : zM_lf p.1 p.2.2.1 se ze no kind w (W + 1) 0 = zD_leaf W w (zD_look W (3 ^ W) kind lz g).2.2 ∧ zM_lf p.1 p.2.2.1 se ze no kind w (W + 1) 0 < nd ∧ ¬ p.1 (se (zM_lf p.1 p.2.2.1 se ze no kind w (W + 1) 0)) = 0 ∧
    (zD_look W (3 ^ W) kind lz g).2.2.2.2.2.1 (zD_leaf W w (zD_look W (3 ^ W) kind lz g).2.2) = zM_dp p.1 p.2.2.1 se ze no kind w (W + 1) 0 := by
  obtain ⟨-, -, t⟩ := h.look
  obtain ⟨a, b, c, d⟩ := h.down w W 0 (W + 1) W t.n1 (by omega) (by omega) (Nat.le_refl W)
  have e : zM_lf p.1 p.2.2.1 se ze no kind w (W + 1) 0 = zD_leaf W w (zD_look W (3 ^ W) kind lz g).2.2 := a
  refine ⟨e, b, c, ?_⟩
  rw [← e, d, t.rt.2, Nat.zero_add]
theorem zP_I.list (h : zP_I W n un kind mk vl ln cd lz g kk ws wn rg li2 ls2 al2 p nd se ze no wd) {v : Nat} (hv : v < 2 ^ W) (fl : Nat) : zE_ofList cd n (lz v) fl = zM_af cd li2 v fl 0 (ls2 v) := by
  unfold zE_ofList
  rw [zP_first, zP_af, (h.LI v hv).1]
  have e := zP_bl_app (x := lz v) n 0 (14 - n)
  have n14 := h.E.2.1
  rw [show n + (14 - n) = 14 by omega] at e
  rw [e, zP_bl_nil (14 - n) (0 + n) (fun k h1 h2 q => by have := ((h.L.2 v hv k).mp q).1; omega), List.append_nil]
theorem zP_I.tried (h : zP_I W n un kind mk vl ln cd lz g kk ws wn rg li2 ls2 al2 p nd se ze no wd) {w : Nat} (hw : w < 2 ^ W) (fl : Nat) : zE_tried mk vl cd n w fl = zM_af cd li2 w fl 0 (ls2 w) := by
  unfold zE_tried
  rw [zP_tried, zP_af, (h.LI w hw).1, zP_ml_lz h.L h.E.2.1 hw]
/-- a node on both sides -/
theorem zP_I.node (h : zP_I W n un kind mk vl ln cd lz g kk ws wn rg li2 ls2 al2 p nd se ze no wd) {k : Nat} (hk : k < nd) :
    (zD_look W (3 ^ W) kind lz g).2.2.1 k = (if p.1 (se k) = 0 then p.2.2.1 (6561 * kind + se k) else 0) ∧ (zD_look W (3 ^ W) kind lz g).2.2.2.1 k = ze k ∧ (zD_look W (3 ^ W) kind lz g).2.2.2.2.1 k = no k ∧ 1 * 2 ^ (W - (zD_look W (3 ^ W) kind lz g).2.2.2.2.2.1 k) = p.2.1 (se k) ∧
    zz_bc 14 ((zD_look W (3 ^ W) kind lz g).2.2.2.2.2.2.1 k) = (if p.1 (se k) = 0 then 0 else ls2 (p.1 (se k) - 1)) ∧
    (¬ p.1 (se k) = 0 → p.1 (se k) - 1 < 2 ^ W ∧ (zD_look W (3 ^ W) kind lz g).2.2.2.2.2.2.1 k = lz (p.1 (se k) - 1)) := by
  obtain ⟨-, R, t⟩ := h.look
  obtain ⟨v, z0, z1, z2, z4, z3⟩ := t.nds k hk
  have r := R _ v.1
  have ec := zP_ch_eq h.W8 h.kd r v
  rw [ec] at z0
  have c0 := zP_ch_0 h.kd r
  have nf := v.2.2.1
  have e4 : ¬ p.1 (se k) = 0 → p.1 (se k) - 1 < 2 ^ W ∧ (zD_look W (3 ^ W) kind lz g).2.2.2.2.2.2.1 k = lz (p.1 (se k) - 1) := by
    intro on1
    obtain ⟨a1, a2, -⟩ := r.2.2.1 on1
    refine ⟨a1, ?_⟩
    rw [(z4 (by rw [z0]; exact c0.mpr on1)).1]
    omega
  refine ⟨?_, z1, z2, ?_, ?_, e4⟩
  · rw [z0]
    by_cases on0 : p.1 (se k) = 0
    · rw [if_pos on0]
    · rw [if_neg on0]; exact c0.mpr on0
  · rw [r.1, Nat.one_mul, show W - (zD_look W (3 ^ W) kind lz g).2.2.2.2.2.1 k = zP_nf (se k) 8 by omega]
  · by_cases on0 : p.1 (se k) = 0
    · rw [if_pos on0, (z3 (by rw [z0]; exact fun z => c0.mp z on0)).1]; rfl
    · rw [if_neg on0, (e4 on0).2]
      have := congrArg List.length (h.LI _ (e4 on0).1).1
      rw [zP_row_len, zP_len14] at this
      exact this.symm
theorem zP_I.mem (h : zP_I W n un kind mk vl ln cd lz g kk ws wn rg li2 ls2 al2 p nd se ze no wd) {k i : Nat} (hk : k < nd) (on1 : ¬ p.1 (se k) = 0) (hi : i < ls2 (p.1 (se k) - 1)) : zE_mem ((zD_look W (3 ^ W) kind lz g).2.2.2.2.2.2.1 k) i 0 0 14 = li2 (14 * (p.1 (se k) - 1) + i) + 1 := by
  obtain ⟨a, b⟩ := (h.node hk).2.2.2.2.2 on1
  have e := zP_mem (x := lz (p.1 (se k) - 1)) 14 0 0 i
  rw [Nat.zero_add, ← (h.LI _ a).1, zP_row_at _ _ _ hi] at e
  rw [b, e]
  rfl
/-- an answer on both sides -/
theorem zP_I.an (h : zP_I W n un kind mk vl ln cd lz g kk ws wn rg li2 ls2 al2 p nd se ze no wd) (w fl : Nat) : zD_an W n w fl cd (zD_look W (3 ^ W) kind lz g) = zM_af cd li2 (p.1 (se (zM_lf p.1 p.2.2.1 se ze no kind w (W + 1) 0)) - 1) fl 0 (ls2 (p.1 (se (zM_lf p.1 p.2.2.1 se ze no kind w (W + 1) 0)) - 1)) := by
  obtain ⟨a, b, c, -⟩ := h.leaf w
  unfold zD_an
  rw [← a, ((h.node b).2.2.2.2.2 c).2]
  exact h.list ((h.node b).2.2.2.2.2 c).1 fl
theorem zP_I.kept (h : zP_I W n un kind mk vl ln cd lz g kk ws wn rg li2 ls2 al2 p nd se ze no wd) (k9 : zDk) (a : zK_ok k9.1 k9.2.1 k9.2.2.1 k9.2.2.2) (b : k9.2.2.2 = zz_cnt (fun j => !decide (k9.1 j = 0)) 0 16) : zP_I W n un kind mk vl ln cd lz g k9 ws wn rg li2 ls2 al2 p nd se ze no wd := ⟨h.W1, h.W8, h.kd, h.E, h.vm, h.L, h.LI, h.lib, h.lsb, h.alb, h.B, h.RT, h.RC, h.onb, h.TR, h.TN, h.r0, h.lb, h.db, h.seb, h.zeb, (a), (b), h.wsb, h.wnb, h.wdr⟩
theorem zP_I.ans (h : zP_I W n un kind mk vl ln cd lz g kk ws wn rg li2 ls2 al2 p nd se ze no wd) {w fl : Nat} (hw : w < 2 ^ W) (hfl : fl < 256) (c : Nat × Nat × Nat) :
    ∀ (A : zDa) (F : zMr × Nat), zD_ans W (3 ^ W) n kind w fl cd lz g kk c = A → zM_find w fl (zM_af cd li2 (p.1 (se (zM_lf p.1 p.2.2.1 se ze no kind w (W + 1) 0)) - 1) fl 0 (ls2 (p.1 (se (zM_lf p.1 p.2.2.1 se ze no kind w (W + 1) 0)) - 1))) (zM_dp p.1 p.2.2.1 se ze no kind w (W + 1) 0) (kk.1, kk.2.1, kk.2.2.1, c.1, c.2.1, c.2.2) = F →
      F = ((A.2.1.1, A.2.1.2.1, A.2.1.2.2.1, A.2.2.1.1, A.2.2.1.2.1, A.2.2.1.2.2), A.2.2.2) ∧ A.2.2.2 ≤ 14 ∧ zP_I W n un kind mk vl ln cd lz A.1 A.2.1 ws wn rg li2 ls2 al2 p nd se ze no wd := by
  intro A F hA hF
  have ww := h.ww
  rw [← h.an w fl, ← (h.leaf w).2.2.2] at hF
  cases q : zK_holds kk.1 kk.2.1 w fl with
  | true =>
    rw [zD_ans_y q] at hA
    unfold zK_holds at q
    simp only [Bool.and_eq_true, decide_eq_true_eq] at q
    unfold zM_find at hF
    rw [if_pos q] at hF
    subst hA hF
    exact ⟨rfl, h.K.2.2.2 _, h⟩
  | false =>
    rw [zD_ans_n q] at hA
    unfold zK_holds at q
    unfold zM_find at hF
    rw [if_neg (fun z => by
      have : (decide (kk.1 (w &&& 15) = w + 1) && decide (kk.2.1 (w &&& 15) = fl)) = true := by simp only [Bool.and_eq_true, decide_eq_true_eq]; exact z
      rw [this] at q; exact absurd q (by decide))] at hF
    have an14 : zD_an W n w fl cd (zD_look W (3 ^ W) kind lz g) ≤ 14 := by
      unfold zD_an zE_ofList
      refine Nat.le_trans (zz_first_le _ _) ?_
      have := h.E.2.1
      omega
    have r16 : w &&& 15 < 16 := Nat.lt_of_le_of_lt Nat.and_le_right (by decide)
    have cu := zP_cnt_up (f := kk.1) (k := w &&& 15) (x := w + 1) (by omega) 16 0
    have kn9 : (if kk.1 (w &&& 15) = 0 then kk.2.2.2 + 1 else kk.2.2.2) = zz_cnt (fun j => !decide (zz_up kk.1 (w &&& 15) (w + 1) j = 0)) 0 16 := by
      rw [cu, h.Kn]
      by_cases z : kk.1 (w &&& 15) = 0
      · rw [if_pos z, if_pos ⟨by omega, by omega, z⟩]
      · rw [if_neg z, if_neg (fun y => z y.2.2), Nat.add_zero]
    subst hA hF
    have kn16 : (if kk.1 (w &&& 15) = 0 then kk.2.2.2 + 1 else kk.2.2.2) ≤ 16 := by rw [kn9]; exact zP_cnt_le16 16 0
    exact ⟨rfl, an14, h.look.1.kept (zK_put kk w fl (zD_an W n w fl cd (zD_look W (3 ^ W) kind lz g))) ⟨kn16, zz_up_le h.K.2.1 (by omega), zz_up_lt h.K.2.2.1 hfl, zz_up_le h.K.2.2.2 an14⟩ kn9⟩
/-- costs looked up -/
theorem zP_I.costR (h : zP_I W n un kind mk vl ln cd lz g kk ws wn rg li2 ls2 al2 p nd se ze no wd) : zP_I W n un kind mk vl ln cd lz (zT_ref W (3 ^ W) lz g.2.1 g.1, true, g.2.2) kk ws wn rg li2 ls2 al2 p nd se ze no wd := by
  obtain ⟨R, Bb⟩ := h.ref
  refine ⟨h.W1, h.W8, h.kd, h.E, h.vm, h.L, h.LI, h.lib, h.lsb, h.alb, (Bb), h.RT, (fun _ => R), h.onb, (fun z => ⟨rfl, ?_⟩), h.TN, h.r0, h.lb, h.db, h.seb, h.zeb, h.K, h.Kn, h.wsb, h.wnb, h.wdr⟩
  have t := h.TR z
  have e : zT_ref W (3 ^ W) lz g.2.1 g.1 = g.1 := by unfold zT_ref; rw [if_pos t.1]
  show zP_tr W kind (zT_ref W (3 ^ W) lz g.2.1 g.1) p nd se ze no g.2.2
  rw [e]; exact t.2
theorem zP_I.cost0 (h : zP_I W n un kind mk vl ln cd lz g kk ws wn rg li2 ls2 al2 p nd se ze no wd) {k : Nat} (hk : k < 3) : zT_deep (zT_choice W (zT_ref W (3 ^ W) lz g.2.1 g.1).1 (zT_ref W (3 ^ W) lz g.2.1 g.1).2.1 (zT_ref W (3 ^ W) lz g.2.1 g.1).2.2 k) (W + 1) (3 ^ W - 1) 0 = p.2.2.2.1 (6561 * k + (3 ^ W - 1)) :=
  zP_deep h.W8 hk h.ref.1 (W + 1) _ _ (zP_V0 h.W8) (by omega)
theorem zP_I.cost1 (h : zP_I W n un kind mk vl ln cd lz g kk ws wn rg li2 ls2 al2 p nd se ze no wd) {k : Nat} (hk : k < 3) : zT_total (zT_choice W (zT_ref W (3 ^ W) lz g.2.1 g.1).1 (zT_ref W (3 ^ W) lz g.2.1 g.1).2.1 (zT_ref W (3 ^ W) lz g.2.1 g.1).2.2 k) W (W + 1) (3 ^ W - 1) 0 = p.2.2.2.2 (6561 * k + (3 ^ W - 1)) :=
  zP_total h.W8 hk h.ref.1 (W + 1) _ _ (zP_V0 h.W8) (by omega)
/-- a word fed, words taken -/
theorem zP_I.feed (h : zP_I W n un kind mk vl ln cd lz g kk ws wn rg li2 ls2 al2 p nd se ze no wd) {w : Nat} (hw : w < 2 ^ W) (hn : wn < 64) : zP_I W n un kind mk vl ln cd lz g kk ws (wn + 1) (zz_up rg ((ws + wn) % 64) w) li2 ls2 al2 p nd se ze no (zz_up wd wn w) := by
  have s := h.wsb
  refine ⟨h.W1, h.W8, h.kd, h.E, h.vm, h.L, h.LI, h.lib, h.lsb, h.alb, h.B, h.RT, h.RC, h.onb, h.TR, h.TN, h.r0, h.lb, h.db, h.seb, h.zeb, h.K, h.Kn, h.wsb, (by omega), (fun j hj => ?_)⟩
  by_cases e : j = wn
  · rw [e, zz_up_s, zz_up_s]; exact ⟨rfl, hw⟩
  · rw [zz_up_n e, zz_up_n (by omega)]
    exact h.wdr j (by omega)
theorem zP_I.take (h : zP_I W n un kind mk vl ln cd lz g kk ws wn rg li2 ls2 al2 p nd se ze no wd) {l : Nat} (hl : l ≤ wn) : zP_I W n un kind mk vl ln cd lz g kk ((ws + l) % 64) (wn - l) rg li2 ls2 al2 p nd se ze no (zM_shf wd l (wn - l)) := by
  have s := h.wsb
  have s2 := h.wnb
  refine ⟨h.W1, h.W8, h.kd, h.E, h.vm, h.L, h.LI, h.lib, h.lsb, h.alb, h.B, h.RT, h.RC, h.onb, h.TR, h.TN, h.r0, h.lb, h.db, h.seb, h.zeb, h.K, h.Kn, (Nat.mod_lt _ (by decide)), (by omega), (fun j hj => ?_)⟩
  have := h.wdr (j + l) (by omega)
  unfold zM_shf
  rw [if_pos hj, show ((ws + l) % 64 + j) % 64 = (ws + (j + l)) % 64 by omega]
  exact this
/-- another kind -/
theorem zP_I.kind9 (h : zP_I W n un kind mk vl ln cd lz g kk ws wn rg li2 ls2 al2 p nd se ze no wd) {k : Nat} (hk : k < 3) (wa pa : Nat → Nat) :
    ∃ (N9 nd2 : Nat) (wa2 pa2 se2 ze2 no2 : Nat → Nat), zM_ti p.1 p.2.2.1 k N9 (1, 0, zz_up wa 0 (3 ^ W - 1), zz_up pa 0 0, se, ze, no) = (0, nd2, wa2, pa2, se2, ze2, no2) ∧ (∀ i, i < N9 → zM_tv p.1 p.2.2.1 k (zM_ti p.1 p.2.2.1 k i (1, 0, zz_up wa 0 (3 ^ W - 1), zz_up pa 0 0, se, ze, no))) ∧
      zP_I W n un k mk vl ln cd lz (g.1, g.2.1, g.2.2.1, g.2.2.2.1, g.2.2.2.2.1, g.2.2.2.2.2.1, g.2.2.2.2.2.2.1, 0, 0) (zz_clr kk.1 16, kk.2.1, kk.2.2.1, 0) ws wn rg li2 ls2 al2 p nd2 se2 ze2 no2 wd := by
  obtain ⟨N9, nd2, wa2, pa2, se2, ze2, no2, e, tv, s1, z1, tn⟩ := zP_made h.W8 hk (h.RT g.1) wa pa se ze no h.seb h.zeb
  exact ⟨N9, nd2, wa2, pa2, se2, ze2, no2, e, tv, ⟨h.W1, h.W8, (hk), h.E, h.vm, h.L, h.LI, h.lib, h.lsb, h.alb, h.B, h.RT, h.RC, h.onb, (fun z => absurd rfl z), (tn), (fun _ => rfl), h.lb, h.db, (s1), (z1), (⟨Nat.zero_le _, zP_clr_le h.K.2.1, h.K.2.2.1, h.K.2.2.2⟩), (zP_cnt_clr.symm), h.wsb, h.wnb, h.wdr⟩⟩
/-- one more encoding -/
theorem zP_I.enc (h : zP_I W n un kind mk vl ln cd lz g kk ws wn rg li2 ls2 al2 p nd se ze no wd) {m v l f : Nat} (hm : m < 1 * 2 ^ W) (hv : v < 256) (hvm : v &&& m = v) (hl : l ≤ 3) (hf : f ≤ 8) (hn : n < 14) (wa pa : Nat → Nat) :
    ∃ (li9 ls9 al9 on2 mn2 bt2 wo2 to2 : Nat → Nat) (N9 nd2 : Nat) (wa2 pa2 se2 ze2 no2 : Nat → Nat),
      zM_lists (zz_up mk n m) (zz_up vl n v) (zz_up cd n f) (n + 1) 0 (1 * 2 ^ W) (li2, ls2, al2) = (li9, ls9, al9) ∧ (∀ j, al9 j < 256) ∧ zM_fill W al9 (3 ^ W) p = (on2, mn2, bt2, wo2, to2) ∧ (∀ i, i < 3 ^ W → zM_fv W al9 i (zM_fill W al9 i p)) ∧ (∀ j, on2 j ≤ 256) ∧
      zM_ti on2 bt2 kind N9 (1, 0, zz_up wa 0 (3 ^ W - 1), zz_up pa 0 0, se, ze, no) = (0, nd2, wa2, pa2, se2, ze2, no2) ∧ (∀ i, i < N9 → zM_tv on2 bt2 kind (zM_ti on2 bt2 kind i (1, 0, zz_up wa 0 (3 ^ W - 1), zz_up pa 0 0, se, ze, no))) ∧
      zP_I W (n + 1) (if f = 0 then un ||| 1 * 2 ^ n else un) kind (zz_up mk n m) (zz_up vl n v) (zz_up ln n l) (zz_up cd n f) (zE_lists (zz_up mk n m) (zz_up vl n v) un n 0 (1 * 2 ^ W) lz) (g.1, false, g.2.2.1, g.2.2.2.1, g.2.2.2.2.1, g.2.2.2.2.2.1, g.2.2.2.2.2.2.1, 0, 0) (zz_clr kk.1 16, kk.2.1, kk.2.2.1, 0) ws wn rg li9 ls9 al9 (on2, mn2, bt2, wo2, to2) nd2 se2 ze2 no2 wd := by
  have ww := h.ww
  obtain ⟨E1, E2, E3, E4, E5, E6, E7, E8⟩ := h.E
  have L9 := zP_lz_add h.L m v f
  rw [← ww.2.1] at L9
  have p14 := zz_pow14 hn
  have lb : ∀ j, zE_lists (zz_up mk n m) (zz_up vl n v) un n 0 (1 * 2 ^ W) lz j < 16384 := by
    intro j
    rw [zP_lists_at]
    split
    · split
      · exact zz_or14 (E8 j) p14
      · exact E8 j
    · exact E8 j
  generalize zE_lists (zz_up mk n m) (zz_up vl n v) un n 0 (1 * 2 ^ W) lz = lz9 at L9 lb ⊢
  have LI9 := zP_li_all L9 (by omega) lb (1 * 2 ^ W) 0 (li2, ls2, al2) (by omega) (fun w hw => by omega)
  have bb := zP_lb (mk := zz_up mk n m) (vl := zz_up vl n v) (cd := zz_up cd n f) (n := n + 1) (by omega) (1 * 2 ^ W) 0 (li2, ls2, al2) h.lib h.lsb h.alb (by omega)
  generalize zM_lists (zz_up mk n m) (zz_up vl n v) (zz_up cd n f) (n + 1) 0 (1 * 2 ^ W) (li2, ls2, al2) = X at LI9 bb ⊢
  rw [Nat.zero_add, ww.2.1] at LI9
  have al9 := zP_al_of LI9
  have RT9 := fun q => zP_R_all (q := q) (p := p) h.W8 al9 (3 ^ W) (Nat.le_refl _)
  have fv := fun i (hi : i < 3 ^ W) => zP_fv (q := g.1) (p := p) h.W8 al9 bb.2.2 h.onb hi
  have on9 := zP_fill_on (W := W) bb.2.2 h.onb (3 ^ W)
  generalize hY : zM_fill W X.2.2 (3 ^ W) p = Y at RT9 on9 ⊢
  obtain ⟨N9, nd2, wa2, pa2, se2, ze2, no2, e, tv, s1, z1, tn⟩ := zP_made h.W8 h.kd (RT9 g.1) wa pa se ze no h.seb h.zeb
  refine ⟨X.1, X.2.1, X.2.2, Y.1, Y.2.1, Y.2.2.1, Y.2.2.2.1, Y.2.2.2.2, N9, nd2, wa2, pa2, se2, ze2, no2, rfl, bb.2.2, hY, fv, on9, e, tv, ?_⟩
  refine ⟨h.W1, h.W8, h.kd, (⟨E1, by omega, ?_, zz_up_lt E4 (by omega), zz_up_lt E5 hv, zz_up_lt E6 (by omega), zz_up_le E7 hf, lb⟩), (fun k hk => ?_), ((by rw [ww.2.1] at L9; exact L9)), (LI9), (bb.1), (bb.2.1), (bb.2.2), h.B, (RT9), ((fun z => by cases z)), (on9), (fun z => absurd rfl z), (tn), (fun _ => rfl), h.lb, h.db, (s1), (z1), (⟨Nat.zero_le _, zP_clr_le h.K.2.1, h.K.2.2.1, h.K.2.2.2⟩), (zP_cnt_clr.symm), h.wsb, h.wnb, h.wdr⟩
  · split
    · exact zz_or14 E3 p14
    · exact E3
  · by_cases q : k = n
    · rw [q, zz_up_s, zz_up_s]; exact hvm
    · rw [zz_up_n q, zz_up_n q]; exact h.vm k (by omega)
theorem zP_I.whole (h : zP_I W n un kind mk vl ln cd lz g kk ws wn rg li2 ls2 al2 p nd se ze no wd) : (!zz_any (fun w => decide (lz w = 0)) 0 (1 * 2 ^ W)) = zM_all (fun w => decide (0 < ls2 w)) 0 (1 * 2 ^ W) true := by
  have len : ∀ w, w < 2 ^ W → ((lz w = 0) ↔ ¬ 0 < ls2 w) := by
    intro w hw
    have a := congrArg List.length (h.LI w hw).1
    rw [zP_row_len] at a
    constructor
    · intro z
      rw [z] at a
      have : (zP_bl 0 0 14).length = 0 := by decide
      omega
    · intro z
      have e : zP_bl (lz w) 0 14 = [] := List.eq_nil_of_length_eq_zero (by omega)
      exact zP_bl_inj (h.E.2.2.2.2.2.2.2 w) (by decide) (e.trans (by decide))
  have af : ∀ (P : Nat → Bool) (r i : Nat), zM_all P i r false = false := by
    intro P r
    induction r with
    | zero => intro i; rfl
    | succ r ih => intro i; rw [zM_all]; exact ih (i + 1)
  have key : ∀ (r i : Nat), i + r ≤ 2 ^ W → (!zz_any (fun w => decide (lz w = 0)) i r) = zM_all (fun w => decide (0 < ls2 w)) i r true := by
    intro r
    induction r with
    | zero => intro i _; rfl
    | succ r ih =>
      intro i hi
      rw [zz_any, zM_all]
      by_cases z : lz i = 0
      · rw [if_pos (by simp [z]), decide_eq_false ((len i (by omega)).mp z)]
        exact (af _ r (i + 1)).symm
      · have z2 : 0 < ls2 i := Decidable.byContradiction fun y => z ((len i (by omega)).mpr y)
        rw [if_neg (by simp [z]), decide_eq_true z2]
        exact ih (i + 1) (by omega)
  exact key (1 * 2 ^ W) 0 (by rw [h.ww.2.1]; omega)
end ZPJ
theorem zP_not_bits {a b : Nat} (ha : a < 256) : (a &&& (b ^^^ 4294967295) = 0) ↔ ∀ i, i < 8 → a.testBit i = true → b.testBit i = true := by
  have m1 : ∀ i, i < 8 → (4294967295 : Nat).testBit i = true := by decide
  constructor
  · intro h i hi h2
    have := congrArg (fun x => Nat.testBit x i) h
    simp only [Nat.testBit_and, Nat.testBit_xor, Nat.zero_testBit, h2, m1 i hi, Bool.true_and] at this
    cases q : b.testBit i with
    | true => rfl
    | false => rw [q] at this; exact absurd this (by decide)
  · intro h
    apply Nat.eq_of_testBit_eq
    intro i
    rw [Nat.testBit_and, Nat.testBit_xor, Nat.zero_testBit]
    cases q : a.testBit i with
    | false => rfl
    | true =>
      by_cases hi : i < 8
      · rw [h i hi q, m1 i hi]; rfl
      · have := Nat.testBit_lt_two_pow (x := a) (i := i) (Nat.lt_of_lt_of_le ha (Nat.pow_le_pow_right (n := 2) (by decide) (show 8 ≤ i by omega)))
        rw [this] at q; exact absurd q (by decide)
theorem zP_sub_bits {v m : Nat} (hv : v < 256) : (v &&& (m ^^^ 4294967295) = 0) ↔ v &&& m = v := by
  rw [zP_not_bits hv]
  constructor
  · intro h
    apply Nat.eq_of_testBit_eq
    intro i
    rw [Nat.testBit_and]
    cases q : v.testBit i with
    | false => rfl
    | true =>
      by_cases hi : i < 8
      · rw [h i hi q]; rfl
      · have := Nat.testBit_lt_two_pow (x := v) (i := i) (Nat.lt_of_lt_of_le hv (Nat.pow_le_pow_right (n := 2) (by decide) (show 8 ≤ i by omega)))
        rw [this] at q; exact absurd q (by decide)
  · intro h i _ q
    rw [← h, Nat.testBit_and] at q
    simp only [Bool.and_eq_true] at q
    exact q.2
theorem zP_x {mk vl : Nat → Nat} {n a b : Nat} (hmk : ∀ j, mk j < 256) (vm : ∀ k, k < n → vl k &&& mk k = vl k) (ha : a < n) (hb : b < n) : zE_x mk vl a b = zM_x mk vl b a := by
  unfold zE_x zM_x zE_common
  have e : (vl a ^^^ vl b) &&& mk a &&& mk b = (vl b ^^^ vl a) &&& mk b &&& mk a := by
    rw [Nat.xor_comm, Nat.and_assoc, Nat.and_comm (mk a), ← Nat.and_assoc]
  rw [e]
  by_cases c : (vl b ^^^ vl a) &&& mk b &&& mk a = 0
  · rw [decide_eq_true c, Bool.true_and, Bool.true_and]
    have key : ∀ x y, x < n → y < n → (vl x ^^^ vl y) &&& mk x &&& mk y = 0 → zM_isIn mk vl x y = zE_all mk y x := by
      intro x y hx hy hc
      unfold zM_isIn zE_all
      by_cases z : mk y &&& (mk x ^^^ 4294967295) = 0
      · rw [decide_eq_true z, Bool.true_and]
        rw [zP_not_bits (hmk y)] at z
        apply decide_eq_true
        apply Nat.eq_of_testBit_eq
        intro i
        rw [Nat.testBit_and]
        have vy := congrArg (fun q => Nat.testBit q i) (vm y hy)
        have vx := congrArg (fun q => Nat.testBit q i) (vm x hx)
        have ci := congrArg (fun q => Nat.testBit q i) hc
        simp only [Nat.testBit_and, Nat.testBit_xor, Nat.zero_testBit] at vy vx ci
        have z2 : (mk y).testBit i = true → (mk x).testBit i = true := by
          intro q
          by_cases hi : i < 8
          · exact z i hi q
          · have := Nat.testBit_lt_two_pow (x := mk y) (i := i) (Nat.lt_of_lt_of_le (hmk y) (Nat.pow_le_pow_right (n := 2) (by decide) (show 8 ≤ i by omega)))
            rw [this] at q; exact absurd q (by decide)
        revert vy vx ci z2
        cases (vl x).testBit i <;> cases (vl y).testBit i <;> cases (mk x).testBit i <;> cases (mk y).testBit i <;> decide
      · rw [decide_eq_false z, Bool.false_and]
    rw [key b a hb ha c, key a b ha hb (by rw [e]; exact c)]
  · rw [decide_eq_false c, Bool.false_and, Bool.false_and]
theorem zP_any_iff {P : Nat → Bool} : ∀ (r i : Nat), (zz_any P i r = true) ↔ ∃ j, i ≤ j ∧ j < i + r ∧ P j = true
  | 0, i => ⟨fun h => by simp [zz_any] at h, fun ⟨j, h1, h2, _⟩ => by omega⟩
  | r + 1, i => by
    rw [zz_any]
    by_cases h : P i = true
    · rw [if_pos h]; exact ⟨fun _ => ⟨i, Nat.le_refl i, by omega, h⟩, fun _ => rfl⟩
    · rw [if_neg h, zP_any_iff r (i + 1)]
      constructor
      · rintro ⟨j, h1, h2, h3⟩; exact ⟨j, by omega, by omega, h3⟩
      · rintro ⟨j, h1, h2, h3⟩
        refine ⟨j, ?_, by omega, h3⟩
        have : j ≠ i := fun q => h (q ▸ h3)
        omega
theorem zP_or_iff {P : Nat → Bool} : ∀ (r i : Nat) (a : Bool), (zM_or P i r a = true) ↔ (a = true ∨ ∃ j, i ≤ j ∧ j < i + r ∧ P j = true)
  | 0, i, a => ⟨fun h => Or.inl h, fun h => h.elim id (fun ⟨j, h1, h2, _⟩ => by omega)⟩
  | r + 1, i, a => by
    rw [zM_or, zP_or_iff r (i + 1), Bool.or_eq_true]
    constructor
    · rintro ((h | h) | ⟨j, h1, h2, h3⟩)
      · exact Or.inl h
      · exact Or.inr ⟨i, Nat.le_refl i, by omega, h⟩
      · exact Or.inr ⟨j, by omega, by omega, h3⟩
    · rintro (h | ⟨j, h1, h2, h3⟩)
      · exact Or.inl (Or.inl h)
      · by_cases q : j = i
        · exact Or.inl (Or.inr (q ▸ h3))
        · exact Or.inr ⟨j, by omega, by omega, h3⟩
theorem zP_cross_iff {mk vl : Nat → Nat} {n : Nat} : ∀ (r e : Nat) (a : Bool), (zM_cross mk vl n e r a = true) ↔ (a = true ∨ ∃ i, e ≤ i ∧ i < e + r ∧ ∃ j, j < i ∧ zM_x mk vl i j = true)
  | 0, e, a => ⟨fun h => Or.inl h, fun h => h.elim id (fun ⟨j, h1, h2, _⟩ => by omega)⟩
  | r + 1, e, a => by
    rw [zM_cross, zP_cross_iff r (e + 1), zP_or_iff]
    constructor
    · rintro ((h | ⟨j, h1, h2, h3⟩) | ⟨i, h1, h2, h3⟩)
      · exact Or.inl h
      · exact Or.inr ⟨e, Nat.le_refl e, by omega, j, by omega, h3⟩
      · exact Or.inr ⟨i, by omega, by omega, h3⟩
    · rintro (h | ⟨i, h1, h2, j, h3, h4⟩)
      · exact Or.inl (Or.inl h)
      · by_cases q : i = e
        · subst q
          exact Or.inl (Or.inr ⟨j, Nat.zero_le j, by omega, h4⟩)
        · exact Or.inr ⟨i, by omega, by omega, j, h3, h4⟩
theorem zP_crosses {mk vl : Nat → Nat} {n : Nat} (hmk : ∀ j, mk j < 256) (vm : ∀ k, k < n → vl k &&& mk k = vl k) : zE_cross mk vl n = zM_cross mk vl n 0 n false := by
  apply Bool.eq_iff_iff.mpr
  unfold zE_cross
  rw [zP_any_iff, zP_cross_iff]
  constructor
  · rintro ⟨a, -, h1, h2⟩
    obtain ⟨b, h3, h4, h5⟩ := (zP_any_iff _ _).mp h2
    refine Or.inr ⟨b, Nat.zero_le b, by omega, a, by omega, ?_⟩
    rw [← zP_x hmk vm (by omega) (by omega)]; exact h5
  · rintro (h | ⟨b, -, h1, a, h2, h3⟩)
    · exact absurd h (by decide)
    · refine ⟨a, Nat.zero_le a, by omega, (zP_any_iff _ _).mpr ⟨b, by omega, by omega, ?_⟩⟩
      rw [zP_x hmk vm (by omega) (by omega)]; exact h3
/-- both objects new -/
theorem zP_I.new {W : Nat} (hW1 : 1 ≤ W) (hW : W ≤ 8) :
    ∃ (li9 ls9 al9 on2 mn2 bt2 wo2 to2 : Nat → Nat) (N9 nd2 : Nat) (wa2 pa2 se2 ze2 no2 : Nat → Nat),
      zM_lists (fun _ => 0) (fun _ => 0) (fun _ => 1) 0 0 (1 * 2 ^ W) (fun _ => 0, fun _ => 0, fun _ => 0) = (li9, ls9, al9) ∧ (∀ j, al9 j < 256) ∧ zM_fill W al9 (3 ^ W) (fun _ => 1, fun _ => 0, fun _ => 1, fun _ => 0, fun _ => 0) = (on2, mn2, bt2, wo2, to2) ∧ (∀ i, i < 3 ^ W → zM_fv W al9 i (zM_fill W al9 i (fun _ => 1, fun _ => 0, fun _ => 1, fun _ => 0, fun _ => 0))) ∧ (∀ j, on2 j ≤ 256) ∧
      zM_ti on2 bt2 0 N9 (1, 0, zz_up (fun _ => 0) 0 (3 ^ W - 1), zz_up (fun _ => 1) 0 0, fun _ => 0, fun _ => 1, fun _ => 1) = (0, nd2, wa2, pa2, se2, ze2, no2) ∧ (∀ i, i < N9 → zM_tv on2 bt2 0 (zM_ti on2 bt2 0 i (1, 0, zz_up (fun _ => 0) 0 (3 ^ W - 1), zz_up (fun _ => 1) 0 0, fun _ => 0, fun _ => 1, fun _ => 1))) ∧
      zP_I W 0 0 0 (fun _ => 0) (fun _ => 0) (fun _ => 0) (fun _ => 1) (fun _ => 0) ((fun _ => 1, fun _ => 0, fun _ => 0), false, (fun _ => 1, fun _ => 1, fun _ => 1, fun _ => 0, fun _ => 0, 0, 0)) (zz_clr (fun _ => 1) 16, fun _ => 0, fun _ => 1, 0) 0 0 (fun _ => 0) li9 ls9 al9 (on2, mn2, bt2, wo2, to2) nd2 se2 ze2 no2 (fun _ => 0) := by
  have p2 : 2 ^ W ≤ 256 := Nat.pow_le_pow_right (n := 2) (by decide) hW
  have L9 : zP_lz (1 * 2 ^ W) 0 0 (fun _ => 0) (fun _ => 0) (fun _ => 1) (fun _ => 0) := zP_lz_0
  have LI9 := zP_li_all L9 (by decide) (fun _ => Nat.le_of_ble_eq_true rfl) (1 * 2 ^ W) 0 (fun _ => 0, fun _ => 0, fun _ => 0) (by omega) (fun w hw => by omega)
  have bb := zP_lb (mk := fun _ => 0) (vl := fun _ => 0) (cd := fun _ => 1) (n := 0) (by omega) (1 * 2 ^ W) 0 (fun _ => 0, fun _ => 0, fun _ => 0) (fun _ => Nat.zero_lt_succ _) (fun _ => Nat.zero_le _) (fun _ => Nat.zero_lt_succ _) (by omega)
  generalize zM_lists (fun _ => 0) (fun _ => 0) (fun _ => 1) 0 0 (1 * 2 ^ W) (fun _ => 0, fun _ => 0, fun _ => 0) = X at LI9 bb ⊢
  rw [Nat.zero_add, Nat.one_mul] at LI9
  rw [Nat.one_mul] at L9
  have al9 := zP_al_of LI9
  have RT9 := fun q => zP_R_all (q := q) (p := (fun _ => 1, fun _ => 0, fun _ => 1, fun _ => 0, fun _ => 0)) hW al9 (3 ^ W) (Nat.le_refl _)
  have fv := fun i (hi : i < 3 ^ W) => zP_fv (q := (fun _ => 0, fun _ => 0, fun _ => 0)) (p := (fun _ => 1, fun _ => 0, fun _ => 1, fun _ => 0, fun _ => 0)) hW al9 bb.2.2 (fun _ => Nat.le_of_ble_eq_true rfl) hi
  have on9 := zP_fill_on (W := W) (p := (fun _ => 1, fun _ => 0, fun _ => 1, fun _ => 0, fun _ => 0)) bb.2.2 (fun _ => Nat.le_of_ble_eq_true rfl) (3 ^ W)
  generalize hY : zM_fill W X.2.2 (3 ^ W) (fun _ => 1, fun _ => 0, fun _ => 1, fun _ => 0, fun _ => 0) = Y at RT9 on9 ⊢
  obtain ⟨N9, nd2, wa2, pa2, se2, ze2, no2, e, tv, s1, z1, tn⟩ := zP_made hW (by decide : 0 < 3) (RT9 (fun _ => 0, fun _ => 0, fun _ => 0)) (fun _ => 0) (fun _ => 1) (fun _ => 0) (fun _ => 1) (fun _ => 1) (fun _ => Nat.le_of_ble_eq_true rfl) (fun _ => Nat.le_of_ble_eq_true rfl)
  refine ⟨X.1, X.2.1, X.2.2, Y.1, Y.2.1, Y.2.2.1, Y.2.2.2.1, Y.2.2.2.2, N9, nd2, wa2, pa2, se2, ze2, no2, rfl, bb.2.2, hY, fv, on9, e, tv, ?_⟩
  exact ⟨(hW1), (hW), (by decide), (⟨by omega, by decide, by decide, fun _ => Nat.le_of_ble_eq_true rfl, fun _ => Nat.le_of_ble_eq_true rfl, fun _ => Nat.le_of_ble_eq_true rfl, fun _ => Nat.le_of_ble_eq_true rfl, fun _ => Nat.le_of_ble_eq_true rfl⟩), (fun k hk => by omega), (L9), (LI9), (bb.1), (bb.2.1), (bb.2.2), (⟨fun _ => Nat.le_of_ble_eq_true rfl, fun _ => Nat.le_of_ble_eq_true rfl, fun _ => Nat.le_of_ble_eq_true rfl⟩), (RT9), ((fun z => by cases z)), (on9), (fun z => absurd rfl z), (tn), (fun _ => rfl), (fun _ => Nat.le_of_ble_eq_true rfl), (fun _ => Nat.zero_le _), (s1), (z1), (⟨by decide, zP_clr_le (fun _ => Nat.le_of_ble_eq_true rfl), fun _ => Nat.le_of_ble_eq_true rfl, fun _ => Nat.le_of_ble_eq_true rfl⟩), (zP_cnt_clr.symm), (by decide), (by decide), (fun j hj => by omega)⟩
