/-! the two objects, side by side -/
theorem zP_cnt_congr {W kd : Nat} {on bt : Nat → Nat} {ch ch' : Nat → Nat → Nat} {V : Nat → Nat → Prop} (h : zP_tt W kd on bt ch V) (h' : zP_tt W kd on bt ch' V) : ∀ (f g d : Nat), V g d → zR_cnt ch f g d = zR_cnt ch' f g d
  | 0, _, _, _ => rfl
  | f + 1, g, d, hg => by
    obtain ⟨-, -, e1, -, e2⟩ := h g d hg
    obtain ⟨-, -, e1', -, -⟩ := h' g d hg
    have e : ch g d = ch' g d := e1.trans e1'.symm
    by_cases c : ch g d = 0
    · rw [zR_cnt_l c, zR_cnt_l (e ▸ c)]
    · obtain ⟨-, -, -, v0, v1⟩ := e2 c
      rw [zR_cnt_n c, zR_cnt_n (e ▸ c), zP_cnt_congr h h' f _ _ v0, zP_cnt_congr h h' f _ _ v1, e]
theorem zP_grow_b {W : Nat} {ch : Nat → Nat → Nat} {cm : Nat → Nat} {V : Nat → Nat → Prop} (hV : ∀ g d, V g d → d ≤ W ∧ (¬ ch g d = 0 → V (g - (2 - 0) * 3 ^ (ch g d - 1)) (d + 1) ∧ V (g - (2 - 1) * 3 ^ (ch g d - 1)) (d + 1))) (hcm : ∀ j, cm j ≤ 16384) : ∀ (f g d : Nat) (r : zRt), V g d → (∀ k, r.2.2.2.2.1 k < 16384) → (∀ k, r.2.2.2.1 k ≤ W) → (∀ k, (zR_grow ch cm f g d r).2.2.2.2.1 k < 16384) ∧ ∀ k, (zR_grow ch cm f g d r).2.2.2.1 k ≤ W
  | 0, _, _, _, _, a, b => ⟨a, b⟩
  | f + 1, g, d, r, hg, a, b => by
    obtain ⟨hd, hs⟩ := hV g d hg
    by_cases c : ch g d = 0
    · rw [zR_grow_l c]
      exact ⟨zz_up_lt a (by have := hcm g; omega), zz_up_le b hd⟩
    · obtain ⟨v0, v1⟩ := hs c
      rw [zR_grow_n c]
      have i0 := zP_grow_b hV hcm f _ _ (zR_down ch g d r) v0 (zz_up_lt a (by decide)) (zz_up_le b hd)
      have i1 := zP_grow_b hV hcm f _ _ (zR_mid r.2.2.2.2.2.1 (zR_grow ch cm f (g - (2 - 0) * 3 ^ (ch g d - 1)) (d + 1) (zR_down ch g d r))) v1 i0.1 i0.2
      exact i1
abbrev zP_tr (W kind : Nat) (q : zTt) (p : zMf) (nd : Nat) (se ze no : Nat → Nat) (r : zRt) : Prop := (r.2.2.2.2.2.1 = nd) ∧ (1 ≤ nd) ∧ (nd ≤ 2 * 2 ^ W - 1) ∧ (∀ j, j < nd → zP_nd (zT_choice W q.1 q.2.1 q.2.2 kind) q.1 (zP_V W kind) se ze no r.1 r.2.1 r.2.2.1 r.2.2.2.1 r.2.2.2.2.1 nd j) ∧ (se 0 = 3 ^ W - 1 ∧ r.2.2.2.1 0 = 0) ∧ (r.2.2.2.2.2.2 = zz_cnt (fun j => !decide (p.1 (se j) = 0)) 0 nd) ∧ (∀ k, r.2.2.2.2.1 k < 16384) ∧ (∀ k, r.2.2.2.1 k ≤ W)
theorem zP_tr.rn {W kind : Nat} {q : zTt} {p : zMf} {nd : Nat} {se ze no : Nat → Nat} {r : zRt} (h : zP_tr W kind q p nd se ze no r) : r.2.2.2.2.2.1 = nd := h.1
theorem zP_tr.n1 {W kind : Nat} {q : zTt} {p : zMf} {nd : Nat} {se ze no : Nat → Nat} {r : zRt} (h : zP_tr W kind q p nd se ze no r) : 1 ≤ nd := h.2.1
theorem zP_tr.nM {W kind : Nat} {q : zTt} {p : zMf} {nd : Nat} {se ze no : Nat → Nat} {r : zRt} (h : zP_tr W kind q p nd se ze no r) : nd ≤ 2 * 2 ^ W - 1 := h.2.2.1
theorem zP_tr.nds {W kind : Nat} {q : zTt} {p : zMf} {nd : Nat} {se ze no : Nat → Nat} {r : zRt} (h : zP_tr W kind q p nd se ze no r) : ∀ j, j < nd → zP_nd (zT_choice W q.1 q.2.1 q.2.2 kind) q.1 (zP_V W kind) se ze no r.1 r.2.1 r.2.2.1 r.2.2.2.1 r.2.2.2.2.1 nd j := h.2.2.2.1
theorem zP_tr.rt {W kind : Nat} {q : zTt} {p : zMf} {nd : Nat} {se ze no : Nat → Nat} {r : zRt} (h : zP_tr W kind q p nd se ze no r) : se 0 = 3 ^ W - 1 ∧ r.2.2.2.1 0 = 0 := h.2.2.2.2.1
theorem zP_tr.lv {W kind : Nat} {q : zTt} {p : zMf} {nd : Nat} {se ze no : Nat → Nat} {r : zRt} (h : zP_tr W kind q p nd se ze no r) : r.2.2.2.2.2.2 = zz_cnt (fun j => !decide (p.1 (se j) = 0)) 0 nd := h.2.2.2.2.2.1
theorem zP_tr.lb {W kind : Nat} {q : zTt} {p : zMf} {nd : Nat} {se ze no : Nat → Nat} {r : zRt} (h : zP_tr W kind q p nd se ze no r) : ∀ k, r.2.2.2.2.1 k < 16384 := h.2.2.2.2.2.2.1
theorem zP_tr.db {W kind : Nat} {q : zTt} {p : zMf} {nd : Nat} {se ze no : Nat → Nat} {r : zRt} (h : zP_tr W kind q p nd se ze no r) : ∀ k, r.2.2.2.1 k ≤ W := h.2.2.2.2.2.2.2
/-- the reference's tree made anew: what its loop needs, what every growing of the class gives -/
theorem zP_made {W kind : Nat} {lz al : Nat → Nat} {q0 : zTt} {p : zMf} (hW : W ≤ 8) (hk : kind < 3) (R0 : zP_R W lz al (3 ^ W) q0 p) (wa pa se ze no : Nat → Nat) (hse : ∀ j, se j < 6561) (hze : ∀ j, ze j ≤ 511) :
    ∃ (N nd : Nat) (wa2 pa2 se2 ze2 no2 : Nat → Nat), zM_ti p.1 p.2.2.1 kind N (1, 0, zz_up wa 0 (3 ^ W - 1), zz_up pa 0 0, se, ze, no) = (0, nd, wa2, pa2, se2, ze2, no2) ∧
      (∀ i, i < N → zM_tv p.1 p.2.2.1 kind (zM_ti p.1 p.2.2.1 kind i (1, 0, zz_up wa 0 (3 ^ W - 1), zz_up pa 0 0, se, ze, no))) ∧ (∀ j, se2 j < 6561) ∧ (∀ j, ze2 j ≤ 511) ∧
      ∀ (q : zTt) (r : zRt), zP_R W lz al (3 ^ W) q p → zT_bnd q → r.2.2.2.2.2.1 = 0 → r.2.2.2.2.2.2 = 0 → (∀ k, r.2.2.2.2.1 k < 16384) → (∀ k, r.2.2.2.1 k ≤ W) →
        zP_tr W kind q p nd se2 ze2 no2 (zR_grow (zT_choice W q.1 q.2.1 q.2.2 kind) q.1 (W + 1) (3 ^ W - 1) 0 r) := by
  have p2 : 2 ^ W ≤ 256 := Nat.pow_le_pow_right (n := 2) (by decide) hW
  have T0 := zP_tt_of hW hk R0
  have V0 := zP_V0 (k := kind) hW
  have c0 := zP_cnt_le T0 (W + 1) _ _ V0
  rw [Nat.sub_zero] at c0
  have key := fun (q : zTt) (R : zP_R W lz al (3 ^ W) q p) (r : zRt) (hr : r.2.2.2.2.2.1 = 0) => zP_tree (cm := q.1) (zP_tt_of hW hk R) (W + 1) (3 ^ W - 1) 0 V0 (by omega) (1, 0, zz_up wa 0 (3 ^ W - 1), zz_up pa 0 0, se, ze, no) r 0 rfl (show zz_up wa 0 (3 ^ W - 1) 0 = 3 ^ W - 1 from zz_up_s) hr (by show zz_up pa 0 0 0 ≤ 0; rw [zz_up_s]; exact Nat.le_refl 0) (by omega)
    (by rw [zP_cnt_congr (zP_tt_of hW hk R) T0 _ _ _ V0]; show 0 + _ ≤ 511; omega) hse hze
  have cc := fun (q : zTt) (R : zP_R W lz al (3 ^ W) q p) => zP_cnt_congr (zP_tt_of hW hk R) T0 (W + 1) _ _ V0
  generalize hN : zR_cnt (zT_choice W q0.1 q0.2.1 q0.2.2 kind) (W + 1) (3 ^ W - 1) 0 = N at *
  have n1 : 1 ≤ N := by rw [← hN]; exact zR_cnt_pos
  have a := key q0 R0 (se, se, se, se, se, 0, 0) rfl
  rw [hN] at a
  have e1 := a.op
  generalize hX : zM_ti p.1 p.2.2.1 kind N (1, 0, zz_up wa 0 (3 ^ W - 1), zz_up pa 0 0, se, ze, no) = X at *
  refine ⟨N, X.2.1, X.2.2.1, X.2.2.2.1, X.2.2.2.2.1, X.2.2.2.2.2.1, X.2.2.2.2.2.2, by rw [hX, ← e1], a.tv, a.sb, a.zb, fun q r R hB hr hl hb1 hb2 => ?_⟩
  have b := key q R r hr
  rw [cc q R, hX] at b
  have nn : X.2.1 = N := by have := b.nn; rw [this]; exact Nat.zero_add N
  have gb := zP_grow_b (ch := zT_choice W q.1 q.2.1 q.2.2 kind) (V := zP_V W kind) (W := W) (fun g d hg => ⟨hg.2.1, fun hc => ((zP_TV hW hk R g d hg).2.2 hc).2.2.2⟩) hB.1 (W + 1) _ _ r V0 hb1 hb2
  refine ⟨?_, by omega, by omega, fun j hj => ?_, b.rt, ?_, gb.1, gb.2⟩
  · rw [zR_grow_rn, cc q R, hr, nn, Nat.zero_add]
  · have := b.nd j (Nat.zero_le j) (by show j < 0 + N; omega)
    rw [show (1, 0, zz_up wa 0 (3 ^ W - 1), zz_up pa 0 0, se, ze, no).2.1 + N = X.2.1 by rw [nn]; exact Nat.zero_add N] at this
    exact this
  · have := b.lv
    rw [this, hl, nn, Nat.zero_add]
abbrev zP_I (W n un kind : Nat) (mk vl ln cd lz : Nat → Nat) (g : zDg) (kk : zDk) (ws wn : Nat) (rg : Nat → Nat) (li2 ls2 al2 : Nat → Nat) (p : zMf) (nd : Nat) (se ze no wd : Nat → Nat) : Prop := (1 ≤ W) ∧ (W ≤ 8) ∧ (kind < 3) ∧ (zE_ok (1 * 2 ^ W) n un mk vl ln cd lz) ∧ (∀ k, k < n → vl k &&& mk k = vl k) ∧ (zP_lz (2 ^ W) n un mk vl cd lz) ∧ (zP_li (2 ^ W) lz li2 ls2 al2) ∧ (∀ j, li2 j < 14) ∧ (∀ j, ls2 j ≤ 14) ∧ (∀ j, al2 j < 256) ∧ (zT_bnd g.1) ∧ (∀ q, zP_R W lz al2 (3 ^ W) (zT_fill W lz (3 ^ W) q) p) ∧ (g.2.1 = true → zP_R W lz al2 (3 ^ W) g.1 p) ∧ (∀ j, p.1 j ≤ 256) ∧ (¬ g.2.2.2.2.2.2.2.1 = 0 → g.2.1 = true ∧ zP_tr W kind g.1 p nd se ze no g.2.2) ∧ (∀ (q : zTt) (r : zRt), zP_R W lz al2 (3 ^ W) q p → zT_bnd q → r.2.2.2.2.2.1 = 0 → r.2.2.2.2.2.2 = 0 → (∀ k, r.2.2.2.2.1 k < 16384) → (∀ k, r.2.2.2.1 k ≤ W) → zP_tr W kind q p nd se ze no (zR_grow (zT_choice W q.1 q.2.1 q.2.2 kind) q.1 (W + 1) (3 ^ W - 1) 0 r)) ∧ (g.2.2.2.2.2.2.2.1 = 0 → g.2.2.2.2.2.2.2.2 = 0) ∧ (∀ k, g.2.2.2.2.2.2.1 k < 16384) ∧ (∀ k, g.2.2.2.2.2.1 k ≤ W) ∧ (∀ j, se j < 6561) ∧ (∀ j, ze j ≤ 511) ∧ (zK_ok kk.1 kk.2.1 kk.2.2.1 kk.2.2.2) ∧ (kk.2.2.2 = zz_cnt (fun j => !decide (kk.1 j = 0)) 0 16) ∧ (ws < 64) ∧ (wn ≤ 64) ∧ (∀ j, j < wn → wd j = rg ((ws + j) % 64) ∧ wd j < 2 ^ W)
theorem zP_I.W1 {W n un kind : Nat} {mk vl ln cd lz : Nat → Nat} {g : zDg} {kk : zDk} {ws wn : Nat} {rg : Nat → Nat} {li2 ls2 al2 : Nat → Nat} {p : zMf} {nd : Nat} {se ze no wd : Nat → Nat} (h : zP_I W n un kind mk vl ln cd lz g kk ws wn rg li2 ls2 al2 p nd se ze no wd) : 1 ≤ W := h.1
theorem zP_I.W8 {W n un kind : Nat} {mk vl ln cd lz : Nat → Nat} {g : zDg} {kk : zDk} {ws wn : Nat} {rg : Nat → Nat} {li2 ls2 al2 : Nat → Nat} {p : zMf} {nd : Nat} {se ze no wd : Nat → Nat} (h : zP_I W n un kind mk vl ln cd lz g kk ws wn rg li2 ls2 al2 p nd se ze no wd) : W ≤ 8 := h.2.1
theorem zP_I.kd {W n un kind : Nat} {mk vl ln cd lz : Nat → Nat} {g : zDg} {kk : zDk} {ws wn : Nat} {rg : Nat → Nat} {li2 ls2 al2 : Nat → Nat} {p : zMf} {nd : Nat} {se ze no wd : Nat → Nat} (h : zP_I W n un kind mk vl ln cd lz g kk ws wn rg li2 ls2 al2 p nd se ze no wd) : kind < 3 := h.2.2.1
theorem zP_I.E {W n un kind : Nat} {mk vl ln cd lz : Nat → Nat} {g : zDg} {kk : zDk} {ws wn : Nat} {rg : Nat → Nat} {li2 ls2 al2 : Nat → Nat} {p : zMf} {nd : Nat} {se ze no wd : Nat → Nat} (h : zP_I W n un kind mk vl ln cd lz g kk ws wn rg li2 ls2 al2 p nd se ze no wd) : zE_ok (1 * 2 ^ W) n un mk vl ln cd lz := h.2.2.2.1
theorem zP_I.vm {W n un kind : Nat} {mk vl ln cd lz : Nat → Nat} {g : zDg} {kk : zDk} {ws wn : Nat} {rg : Nat → Nat} {li2 ls2 al2 : Nat → Nat} {p : zMf} {nd : Nat} {se ze no wd : Nat → Nat} (h : zP_I W n un kind mk vl ln cd lz g kk ws wn rg li2 ls2 al2 p nd se ze no wd) : ∀ k, k < n → vl k &&& mk k = vl k := h.2.2.2.2.1
theorem zP_I.L {W n un kind : Nat} {mk vl ln cd lz : Nat → Nat} {g : zDg} {kk : zDk} {ws wn : Nat} {rg : Nat → Nat} {li2 ls2 al2 : Nat → Nat} {p : zMf} {nd : Nat} {se ze no wd : Nat → Nat} (h : zP_I W n un kind mk vl ln cd lz g kk ws wn rg li2 ls2 al2 p nd se ze no wd) : zP_lz (2 ^ W) n un mk vl cd lz := h.2.2.2.2.2.1
theorem zP_I.LI {W n un kind : Nat} {mk vl ln cd lz : Nat → Nat} {g : zDg} {kk : zDk} {ws wn : Nat} {rg : Nat → Nat} {li2 ls2 al2 : Nat → Nat} {p : zMf} {nd : Nat} {se ze no wd : Nat → Nat} (h : zP_I W n un kind mk vl ln cd lz g kk ws wn rg li2 ls2 al2 p nd se ze no wd) : zP_li (2 ^ W) lz li2 ls2 al2 := h.2.2.2.2.2.2.1
theorem zP_I.lib {W n un kind : Nat} {mk vl ln cd lz : Nat → Nat} {g : zDg} {kk : zDk} {ws wn : Nat} {rg : Nat → Nat} {li2 ls2 al2 : Nat → Nat} {p : zMf} {nd : Nat} {se ze no wd : Nat → Nat} (h : zP_I W n un kind mk vl ln cd lz g kk ws wn rg li2 ls2 al2 p nd se ze no wd) : ∀ j, li2 j < 14 := h.2.2.2.2.2.2.2.1
theorem zP_I.lsb {W n un kind : Nat} {mk vl ln cd lz : Nat → Nat} {g : zDg} {kk : zDk} {ws wn : Nat} {rg : Nat → Nat} {li2 ls2 al2 : Nat → Nat} {p : zMf} {nd : Nat} {se ze no wd : Nat → Nat} (h : zP_I W n un kind mk vl ln cd lz g kk ws wn rg li2 ls2 al2 p nd se ze no wd) : ∀ j, ls2 j ≤ 14 := h.2.2.2.2.2.2.2.2.1
theorem zP_I.alb {W n un kind : Nat} {mk vl ln cd lz : Nat → Nat} {g : zDg} {kk : zDk} {ws wn : Nat} {rg : Nat → Nat} {li2 ls2 al2 : Nat → Nat} {p : zMf} {nd : Nat} {se ze no wd : Nat → Nat} (h : zP_I W n un kind mk vl ln cd lz g kk ws wn rg li2 ls2 al2 p nd se ze no wd) : ∀ j, al2 j < 256 := h.2.2.2.2.2.2.2.2.2.1
theorem zP_I.B {W n un kind : Nat} {mk vl ln cd lz : Nat → Nat} {g : zDg} {kk : zDk} {ws wn : Nat} {rg : Nat → Nat} {li2 ls2 al2 : Nat → Nat} {p : zMf} {nd : Nat} {se ze no wd : Nat → Nat} (h : zP_I W n un kind mk vl ln cd lz g kk ws wn rg li2 ls2 al2 p nd se ze no wd) : zT_bnd g.1 := h.2.2.2.2.2.2.2.2.2.2.1
theorem zP_I.RT {W n un kind : Nat} {mk vl ln cd lz : Nat → Nat} {g : zDg} {kk : zDk} {ws wn : Nat} {rg : Nat → Nat} {li2 ls2 al2 : Nat → Nat} {p : zMf} {nd : Nat} {se ze no wd : Nat → Nat} (h : zP_I W n un kind mk vl ln cd lz g kk ws wn rg li2 ls2 al2 p nd se ze no wd) : ∀ q, zP_R W lz al2 (3 ^ W) (zT_fill W lz (3 ^ W) q) p := h.2.2.2.2.2.2.2.2.2.2.2.1
theorem zP_I.RC {W n un kind : Nat} {mk vl ln cd lz : Nat → Nat} {g : zDg} {kk : zDk} {ws wn : Nat} {rg : Nat → Nat} {li2 ls2 al2 : Nat → Nat} {p : zMf} {nd : Nat} {se ze no wd : Nat → Nat} (h : zP_I W n un kind mk vl ln cd lz g kk ws wn rg li2 ls2 al2 p nd se ze no wd) : g.2.1 = true → zP_R W lz al2 (3 ^ W) g.1 p := h.2.2.2.2.2.2.2.2.2.2.2.2.1
theorem zP_I.onb {W n un kind : Nat} {mk vl ln cd lz : Nat → Nat} {g : zDg} {kk : zDk} {ws wn : Nat} {rg : Nat → Nat} {li2 ls2 al2 : Nat → Nat} {p : zMf} {nd : Nat} {se ze no wd : Nat → Nat} (h : zP_I W n un kind mk vl ln cd lz g kk ws wn rg li2 ls2 al2 p nd se ze no wd) : ∀ j, p.1 j ≤ 256 := h.2.2.2.2.2.2.2.2.2.2.2.2.2.1
theorem zP_I.TR {W n un kind : Nat} {mk vl ln cd lz : Nat → Nat} {g : zDg} {kk : zDk} {ws wn : Nat} {rg : Nat → Nat} {li2 ls2 al2 : Nat → Nat} {p : zMf} {nd : Nat} {se ze no wd : Nat → Nat} (h : zP_I W n un kind mk vl ln cd lz g kk ws wn rg li2 ls2 al2 p nd se ze no wd) : ¬ g.2.2.2.2.2.2.2.1 = 0 → g.2.1 = true ∧ zP_tr W kind g.1 p nd se ze no g.2.2 := h.2.2.2.2.2.2.2.2.2.2.2.2.2.2.1
theorem zP_I.TN {W n un kind : Nat} {mk vl ln cd lz : Nat → Nat} {g : zDg} {kk : zDk} {ws wn : Nat} {rg : Nat → Nat} {li2 ls2 al2 : Nat → Nat} {p : zMf} {nd : Nat} {se ze no wd : Nat → Nat} (h : zP_I W n un kind mk vl ln cd lz g kk ws wn rg li2 ls2 al2 p nd se ze no wd) : ∀ (q : zTt) (r : zRt), zP_R W lz al2 (3 ^ W) q p → zT_bnd q → r.2.2.2.2.2.1 = 0 → r.2.2.2.2.2.2 = 0 → (∀ k, r.2.2.2.2.1 k < 16384) → (∀ k, r.2.2.2.1 k ≤ W) → zP_tr W kind q p nd se ze no (zR_grow (zT_choice W q.1 q.2.1 q.2.2 kind) q.1 (W + 1) (3 ^ W - 1) 0 r) := h.2.2.2.2.2.2.2.2.2.2.2.2.2.2.2.1
theorem zP_I.r0 {W n un kind : Nat} {mk vl ln cd lz : Nat → Nat} {g : zDg} {kk : zDk} {ws wn : Nat} {rg : Nat → Nat} {li2 ls2 al2 : Nat → Nat} {p : zMf} {nd : Nat} {se ze no wd : Nat → Nat} (h : zP_I W n un kind mk vl ln cd lz g kk ws wn rg li2 ls2 al2 p nd se ze no wd) : g.2.2.2.2.2.2.2.1 = 0 → g.2.2.2.2.2.2.2.2 = 0 := h.2.2.2.2.2.2.2.2.2.2.2.2.2.2.2.2.1
theorem zP_I.lb {W n un kind : Nat} {mk vl ln cd lz : Nat → Nat} {g : zDg} {kk : zDk} {ws wn : Nat} {rg : Nat → Nat} {li2 ls2 al2 : Nat → Nat} {p : zMf} {nd : Nat} {se ze no wd : Nat → Nat} (h : zP_I W n un kind mk vl ln cd lz g kk ws wn rg li2 ls2 al2 p nd se ze no wd) : ∀ k, g.2.2.2.2.2.2.1 k < 16384 := h.2.2.2.2.2.2.2.2.2.2.2.2.2.2.2.2.2.1
theorem zP_I.db {W n un kind : Nat} {mk vl ln cd lz : Nat → Nat} {g : zDg} {kk : zDk} {ws wn : Nat} {rg : Nat → Nat} {li2 ls2 al2 : Nat → Nat} {p : zMf} {nd : Nat} {se ze no wd : Nat → Nat} (h : zP_I W n un kind mk vl ln cd lz g kk ws wn rg li2 ls2 al2 p nd se ze no wd) : ∀ k, g.2.2.2.2.2.1 k ≤ W := h.2.2.2.2.2.2.2.2.2.2.2.2.2.2.2.2.2.2.1
theorem zP_I.seb {W n un kind : Nat} {mk vl ln cd lz : Nat → Nat} {g : zDg} {kk : zDk} {ws wn : Nat} {rg : Nat → Nat} {li2 ls2 al2 : Nat → Nat} {p : zMf} {nd : Nat} {se ze no wd : Nat → Nat} (h : zP_I W n un kind mk vl ln cd lz g kk ws wn rg li2 ls2 al2 p nd se ze no wd) : ∀ j, se j < 6561 := h.2.2.2.2.2.2.2.2.2.2.2.2.2.2.2.2.2.2.2.1
theorem zP_I.zeb {W n un kind : Nat} {mk vl ln cd lz : Nat → Nat} {g : zDg} {kk : zDk} {ws wn : Nat} {rg : Nat → Nat} {li2 ls2 al2 : Nat → Nat} {p : zMf} {nd : Nat} {se ze no wd : Nat → Nat} (h : zP_I W n un kind mk vl ln cd lz g kk ws wn rg li2 ls2 al2 p nd se ze no wd) : ∀ j, ze j ≤ 511 := h.2.2.2.2.2.2.2.2.2.2.2.2.2.2.2.2.2.2.2.2.1
theorem zP_I.K {W n un kind : Nat} {mk vl ln cd lz : Nat → Nat} {g : zDg} {kk : zDk} {ws wn : Nat} {rg : Nat → Nat} {li2 ls2 al2 : Nat → Nat} {p : zMf} {nd : Nat} {se ze no wd : Nat → Nat} (h : zP_I W n un kind mk vl ln cd lz g kk ws wn rg li2 ls2 al2 p nd se ze no wd) : zK_ok kk.1 kk.2.1 kk.2.2.1 kk.2.2.2 := h.2.2.2.2.2.2.2.2.2.2.2.2.2.2.2.2.2.2.2.2.2.1
theorem zP_I.Kn {W n un kind : Nat} {mk vl ln cd lz : Nat → Nat} {g : zDg} {kk : zDk} {ws wn : Nat} {rg : Nat → Nat} {li2 ls2 al2 : Nat → Nat} {p : zMf} {nd : Nat} {se ze no wd : Nat → Nat} (h : zP_I W n un kind mk vl ln cd lz g kk ws wn rg li2 ls2 al2 p nd se ze no wd) : kk.2.2.2 = zz_cnt (fun j => !decide (kk.1 j = 0)) 0 16 := h.2.2.2.2.2.2.2.2.2.2.2.2.2.2.2.2.2.2.2.2.2.2.1
theorem zP_I.wsb {W n un kind : Nat} {mk vl ln cd lz : Nat → Nat} {g : zDg} {kk : zDk} {ws wn : Nat} {rg : Nat → Nat} {li2 ls2 al2 : Nat → Nat} {p : zMf} {nd : Nat} {se ze no wd : Nat → Nat} (h : zP_I W n un kind mk vl ln cd lz g kk ws wn rg li2 ls2 al2 p nd se ze no wd) : ws < 64 := h.2.2.2.2.2.2.2.2.2.2.2.2.2.2.2.2.2.2.2.2.2.2.2.1
theorem zP_I.wnb {W n un kind : Nat} {mk vl ln cd lz : Nat → Nat} {g : zDg} {kk : zDk} {ws wn : Nat} {rg : Nat → Nat} {li2 ls2 al2 : Nat → Nat} {p : zMf} {nd : Nat} {se ze no wd : Nat → Nat} (h : zP_I W n un kind mk vl ln cd lz g kk ws wn rg li2 ls2 al2 p nd se ze no wd) : wn ≤ 64 := h.2.2.2.2.2.2.2.2.2.2.2.2.2.2.2.2.2.2.2.2.2.2.2.2.1
theorem zP_I.wdr {W n un kind : Nat} {mk vl ln cd lz : Nat → Nat} {g : zDg} {kk : zDk} {ws wn : Nat} {rg : Nat → Nat} {li2 ls2 al2 : Nat → Nat} {p : zMf} {nd : Nat} {se ze no wd : Nat → Nat} (h : zP_I W n un kind mk vl ln cd lz g kk ws wn rg li2 ls2 al2 p nd se ze no wd) : ∀ j, j < wn → wd j = rg ((ws + j) % 64) ∧ wd j < 2 ^ W := h.2.2.2.2.2.2.2.2.2.2.2.2.2.2.2.2.2.2.2.2.2.2.2.2.2
section ZPI
variable {W n un kind : Nat} {mk vl ln cd lz : Nat → Nat} {g : zDg} {kk : zDk} {ws wn : Nat} {rg : Nat → Nat} {li2 ls2 al2 : Nat → Nat} {p : zMf} {nd : Nat} {se ze no wd : Nat → Nat}
/-- the class's tables, brought up to date -/
theorem zP_I.ref (h : zP_I W n un kind mk vl ln cd lz g kk ws wn rg li2 ls2 al2 p nd se ze no wd) : zP_R W lz al2 (3 ^ W) (zT_ref W (3 ^ W) lz g.2.1 g.1) p ∧ zT_bnd (zT_ref W (3 ^ W) lz g.2.1 g.1) := by
  unfold zT_ref
  split
  · next c => exact ⟨h.RC c, h.B⟩
  · exact ⟨h.RT _, zP_fill_bnd h.E.2.2.2.2.2.2.2 h.W8 h.B _ (Nat.le_refl _)⟩
theorem zP_I.ww (h : zP_I W n un kind mk vl ln cd lz g kk ws wn rg li2 ls2 al2 p nd se ze no wd) : 2 ^ W ≤ 256 ∧ 1 * 2 ^ W = 2 ^ W ∧ 1 ≤ 3 ^ W ∧ 3 ^ W ≤ 6561 ∧ 2 * 2 ^ W - 1 ≤ 511 := by
  have p2 : 2 ^ W ≤ 256 := Nat.pow_le_pow_right (n := 2) (by decide) h.W8
  exact ⟨p2, Nat.one_mul _, zz_3pos W, zP_3W h.W8, by omega⟩
theorem zP_I.okat (h : zP_I W n un kind mk vl ln cd lz g kk ws wn rg li2 ls2 al2 p nd se ze no wd) : ∀ i, i < 3 ^ W → zT_okat W (1 * 2 ^ W) i := fun i hi => by
  rw [Nat.one_mul]; exact zP_okat h.W8 hi
theorem zP_I.fillb (h : zP_I W n un kind mk vl ln cd lz g kk ws wn rg li2 ls2 al2 p nd se ze no wd) : ∀ i, i ≤ 3 ^ W → zT_bnd (zT_fill W lz i g.1) := fun i hi => zP_fill_bnd h.E.2.2.2.2.2.2.2 h.W8 h.B i hi
theorem zP_I.grow (h : zP_I W n un kind mk vl ln cd lz g kk ws wn rg li2 ls2 al2 p nd se ze no wd) : zD_grow W (1 * 2 ^ W) (3 ^ W) (2 * 2 ^ W - 1) kind lz g.2.1 g.1 := by
  obtain ⟨R, Bb⟩ := h.ref
  have w := h.ww
  refine ⟨h.okat, h.fillb, Bb, w.2.2.1, zP_V W kind, zP_TV h.W8 h.kd R, zP_V0 h.W8, fun g' d hg hc => ?_, ?_⟩
  · have r := R g' hg.1
    rw [zP_ch_eq h.W8 h.kd r hg] at hc
    exact fun z => (zP_ch_0 h.kd r).mp hc (r.2.1.mp z)
  · have := zP_cnt_le (zP_tt_of h.W8 h.kd R) (W + 1) _ _ (zP_V0 (k := kind) h.W8)
    rw [Nat.sub_zero] at this
    omega
theorem zP_tr_tree {W kind : Nat} {q : zTt} {p : zMf} {nd : Nat} {se ze no : Nat → Nat} {r : zRt} (hW : W ≤ 8) (hV : zT_V W (3 ^ W) q.1 q.2.1 q.2.2 kind (zP_V W kind)) (h : zP_tr W kind q p nd se ze no r) : zD_tree W (2 * 2 ^ W - 1) r := by
  have ch9 : ∀ j, j < nd → r.1 j ≤ 8 := by
    intro j hj
    obtain ⟨a, b, -⟩ := h.nds j hj
    rw [b]
    exact Nat.le_trans (zT_V_c hV a) hW
  have U : zR_U (2 * 2 ^ W - 1) r.1 r.2.1 r.2.2.1 (fun k => k < nd) := by
    intro k hk
    have nM := h.nM
    refine ⟨by omega, ch9 k hk, fun hc => ?_⟩
    obtain ⟨-, -, z1, z2, -, z3⟩ := h.nds k hk
    obtain ⟨-, ⟨a1, -, a3, -⟩, b1, -, b3, -⟩ := z3 hc
    rw [z1, z2]
    exact ⟨⟨a1, a3⟩, b1, b3⟩
  refine ⟨⟨fun k => k < nd, U, h.n1, fun w => ?_⟩, h.lb, h.db, by rw [h.rn]; exact h.nM⟩
  have key : ∀ f k, k < nd → zR_leaf r.1 r.2.1 r.2.2.1 w f k < 2 * 2 ^ W - 1 := by
    intro f
    induction f with
    | zero => intro k hk; exact (U k hk).1
    | succ f ih =>
      intro k hk
      rw [zR_leaf]
      split
      · exact (U k hk).1
      · next hc =>
        obtain ⟨⟨-, u1⟩, -, u2⟩ := (U k hk).2.2 hc
        split
        · exact ih _ u1
        · exact ih _ u2
  exact key W 0 h.n1
theorem zP_I.look (h : zP_I W n un kind mk vl ln cd lz g kk ws wn rg li2 ls2 al2 p nd se ze no wd) : zP_I W n un kind mk vl ln cd lz (zD_look W (3 ^ W) kind lz g) kk ws wn rg li2 ls2 al2 p nd se ze no wd ∧ zP_R W lz al2 (3 ^ W) (zD_look W (3 ^ W) kind lz g).1 p ∧ zP_tr W kind (zD_look W (3 ^ W) kind lz g).1 p nd se ze no (zD_look W (3 ^ W) kind lz g).2.2 := by
  by_cases c : g.2.2.2.2.2.2.2.1 = 0
  · obtain ⟨R, Bb⟩ := h.ref
    have t := h.TN _ g.2.2 R Bb c (h.r0 c) h.lb h.db
    rw [zD_look_y c]
    have nz : ¬ (zR_grow (zT_choice W (zT_ref W (3 ^ W) lz g.2.1 g.1).1 (zT_ref W (3 ^ W) lz g.2.1 g.1).2.1 (zT_ref W (3 ^ W) lz g.2.1 g.1).2.2 kind) (zT_ref W (3 ^ W) lz g.2.1 g.1).1 (W + 1) (3 ^ W - 1) 0 g.2.2).2.2.2.2.2.1 = 0 := by
      rw [t.rn]; have := t.n1; omega
    exact ⟨⟨h.W1, h.W8, h.kd, h.E, h.vm, h.L, h.LI, h.lib, h.lsb, h.alb, (Bb), h.RT, (fun _ => R), h.onb, (fun _ => ⟨rfl, t⟩), h.TN, (fun z => absurd z nz), (t.lb), (t.db), h.seb, h.zeb, h.K, h.Kn, h.wsb, h.wnb, h.wdr⟩, R, t⟩
  · rw [zD_look_n c]
    exact ⟨h, h.RC (h.TR c).1, (h.TR c).2⟩
theorem zP_I.rnM (h : zP_I W n un kind mk vl ln cd lz g kk ws wn rg li2 ls2 al2 p nd se ze no wd) : g.2.2.2.2.2.2.2.1 ≤ 2 * 2 ^ W - 1 := by
  by_cases c : g.2.2.2.2.2.2.2.1 = 0
  · omega
  · have t := (h.TR c).2
    rw [t.rn]; exact t.nM
theorem zP_I.tree (h : zP_I W n un kind mk vl ln cd lz g kk ws wn rg li2 ls2 al2 p nd se ze no wd) : zD_tree W (2 * 2 ^ W - 1) (zD_look W (3 ^ W) kind lz g).2.2 := by
  obtain ⟨-, R, t⟩ := h.look
  exact zP_tr_tree h.W8 (zP_TV h.W8 h.kd R) t
/-- the reference's tree: going down -/
theorem zP_I.U (h : zP_I W n un kind mk vl ln cd lz g kk ws wn rg li2 ls2 al2 p nd se ze no wd) : zM_U p.1 p.2.2.1 se ze no kind (fun k => k < nd) (fun k => W - (zD_look W (3 ^ W) kind lz g).2.2.2.2.2.1 k) := by
  obtain ⟨-, R, t⟩ := h.look
  have w := h.ww
  have nM := t.nM
  intro k hk
  refine ⟨by omega, fun on0 => ?_⟩
  obtain ⟨v, z0, z1, z2, -, z3⟩ := t.nds k hk
  have r := R _ v.1
  have ec := zP_ch_eq h.W8 h.kd r v
  have bt0 : ¬ p.2.2.1 (6561 * kind + se k) = 0 := fun z => (zP_ch_0 h.kd r).mp z on0
  rw [ec] at z0
  obtain ⟨-, ⟨a1, a2, a3, a4⟩, b1, b2, b3, b4⟩ := z3 (by rw [z0]; exact bt0)
  obtain ⟨b0, c1, c2, -⟩ := (r.2.2.2.2.1 on0).2 kind h.kd
  have d1 := (t.nds _ a3).1.2.1
  have d2 := (t.nds _ b3).1.2.1
  refine ⟨bt0, by have := h.W8; omega, a1, b1, a3, b3, ?_, ?_⟩
  · show W - _ < W - _
    rw [a4] at d1 ⊢
    omega
  · show W - _ < W - _
    rw [b4] at d2 ⊢
    omega
theorem zP_I.down (h : zP_I W n un kind mk vl ln cd lz g kk ws wn rg li2 ls2 al2 p nd se ze no wd) (w : Nat) : ∀ (m k f f' : Nat), k < nd → W - (zD_look W (3 ^ W) kind lz g).2.2.2.2.2.1 k ≤ m → m ≤ f → m ≤ f' →
    zM_lf p.1 p.2.2.1 se ze no kind w f k = zR_leaf (zD_look W (3 ^ W) kind lz g).2.2.1 (zD_look W (3 ^ W) kind lz g).2.2.2.1 (zD_look W (3 ^ W) kind lz g).2.2.2.2.1 w f' k ∧ zM_lf p.1 p.2.2.1 se ze no kind w f k < nd ∧ ¬ p.1 (se (zM_lf p.1 p.2.2.1 se ze no kind w f k)) = 0 ∧
    (zD_look W (3 ^ W) kind lz g).2.2.2.2.2.1 (zM_lf p.1 p.2.2.1 se ze no kind w f k) = (zD_look W (3 ^ W) kind lz g).2.2.2.2.2.1 k + zM_dp p.1 p.2.2.1 se ze no kind w f k := by
  obtain ⟨-, R, t⟩ := h.look
  intro m
  induction m with
  | zero =>
    intro k f f' hk hm _ _
    obtain ⟨v, z0, z1, z2, -, z3⟩ := t.nds k hk
    have r := R _ v.1
    have ec := zP_ch_eq h.W8 h.kd r v
    have on1 : ¬ p.1 (se k) = 0 := by
      intro on0
      obtain ⟨b0, c1, c2, c3, -, -, c6⟩ := (r.2.2.2.2.1 on0).2 kind h.kd
      have := (zP_side_V (v := 0) h.W8 (by decide) v c1 c3 c6).2
      omega
    have tb0 : (zD_look W (3 ^ W) kind lz g).2.2.1 k = 0 := by rw [z0, ec]; exact (zP_ch_0 h.kd r).mpr on1
    have el : ∀ f', zR_leaf (zD_look W (3 ^ W) kind lz g).2.2.1 (zD_look W (3 ^ W) kind lz g).2.2.2.1 (zD_look W (3 ^ W) kind lz g).2.2.2.2.1 w f' k = k := by
      intro f'
      cases f' with
      | zero => rfl
      | succ f' => rw [zR_leaf, if_pos tb0]
    rw [zM_lf_e on1, zM_dp_e on1, el f']
    exact ⟨rfl, hk, on1, rfl⟩
  | succ m ih =>
    intro k f f' hk hm hf hf'
    obtain ⟨v, z0, z1, z2, -, z3⟩ := t.nds k hk
    have r := R _ v.1
    have ec := zP_ch_eq h.W8 h.kd r v
    rw [ec] at z0
    by_cases on0 : p.1 (se k) = 0
    · have bt0 : ¬ p.2.2.1 (6561 * kind + se k) = 0 := fun z => (zP_ch_0 h.kd r).mp z on0
      obtain ⟨-, ⟨a1, a2, a3, a4⟩, b1, b2, b3, b4⟩ := z3 (by rw [z0]; exact bt0)
      have step : ∃ k', zM_go p.2.2.1 se ze no kind w k = k' ∧ ((if w / 2 ^ ((zD_look W (3 ^ W) kind lz g).2.2.1 k - 1) &&& 1 = 0 then (zD_look W (3 ^ W) kind lz g).2.2.2.1 k else (zD_look W (3 ^ W) kind lz g).2.2.2.2.1 k) - 1) = k' ∧ k' < nd ∧ (zD_look W (3 ^ W) kind lz g).2.2.2.2.2.1 k' = (zD_look W (3 ^ W) kind lz g).2.2.2.2.2.1 k + 1 := by
        refine ⟨_, rfl, ?_⟩
        unfold zM_go
        rw [z0, z1, z2]
        split
        · exact ⟨rfl, a3, a4⟩
        · exact ⟨rfl, b3, b4⟩
      obtain ⟨k', e1, e2, e3, e4⟩ := step
      obtain ⟨i1, i2, i3, i4⟩ := ih k' (f - 1) (f' - 1) e3 (by omega) (by omega) (by omega)
      have el : zR_leaf (zD_look W (3 ^ W) kind lz g).2.2.1 (zD_look W (3 ^ W) kind lz g).2.2.2.1 (zD_look W (3 ^ W) kind lz g).2.2.2.2.1 w f' k = zR_leaf (zD_look W (3 ^ W) kind lz g).2.2.1 (zD_look W (3 ^ W) kind lz g).2.2.2.1 (zD_look W (3 ^ W) kind lz g).2.2.2.2.1 w (f' - 1) k' := by
        cases f' with
        | zero => omega
        | succ f' => rw [zR_leaf, if_neg (by rw [z0]; exact bt0), e2]; rfl
      rw [zM_lf_s (by omega) on0, zM_dp_s (by omega) on0, e1, el]
      exact ⟨i1, i2, i3, by rw [i4, e4]; omega⟩
    · have tb0 : (zD_look W (3 ^ W) kind lz g).2.2.1 k = 0 := by rw [z0]; exact (zP_ch_0 h.kd r).mpr on0
      have el : zR_leaf (zD_look W (3 ^ W) kind lz g).2.2.1 (zD_look W (3 ^ W) kind lz g).2.2.2.1 (zD_look W (3 ^ W) kind lz g).2.2.2.2.1 w f' k = k := by
        cases f' with
        | zero => rfl
        | succ f' => rw [zR_leaf, if_pos tb0]
      rw [zM_lf_e on0, zM_dp_e on0, el]
      exact ⟨rfl, hk, on0, rfl⟩
end ZPI
