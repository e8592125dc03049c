/-! choices, costs -/
def zP_V (W k g d : Nat) : Prop := g < 3 ^ W ∧ d ≤ W ∧ zP_nf g 8 + d = W ∧ (k = 2 → ∀ b, b < W → (zM_dg g b = 2 ↔ b < W - d))
theorem zP_top : ∀ W, W < 9 → (∀ b, b < W → zM_dg (3 ^ W - 1) b = 2) ∧ zP_nf (3 ^ W - 1) 8 = W := by decide
theorem zP_V0 {W k : Nat} (hW : W ≤ 8) : zP_V W k (3 ^ W - 1) 0 := by
  have a := zP_top W (by omega)
  have b := zz_3pos W
  exact ⟨by omega, Nat.zero_le W, a.2, fun _ b hb => ⟨fun _ => by omega, fun _ => a.1 b hb⟩⟩
theorem zP_side_V {W k g d b0 v : Nat} (hW : W ≤ 8) (hv : v ≤ 1) (h : zP_V W k g d) (hb : b0 < W) (hd : zM_dg g b0 = 2) (h2 : k = 2 → ∀ b, b0 < b → b < W → ¬ zM_dg g b = 2) : zP_V W k (g - (2 - v) * 3 ^ b0) (d + 1) ∧ d < W := by
  obtain ⟨h1, hdW, h3, h4⟩ := h
  have n := zP_nf_s (s := g) (b := b0) (k := 2 - v) (by omega) (by omega) (by omega) hd
  refine ⟨⟨Nat.lt_of_le_of_lt (Nat.sub_le _ _) h1, by omega, by omega, fun k2 b hbW => ?_⟩, by omega⟩
  have e : b0 = W - 1 - d := by
    have a := (h4 k2 b0 hb).mp hd
    have c : ¬ b0 < W - 1 - d := fun z => h2 k2 (W - 1 - d) z (by omega) ((h4 k2 (W - 1 - d) (by omega)).mpr (by omega))
    omega
  by_cases q : b = b0
  · subst q
    rw [zP_dg_eq (by omega) hd]
    omega
  · rw [zP_dg_ne (by omega) hd q, h4 k2 b hbW]
    omega
theorem zP_and7 {x b : Nat} (h : b < 8) : (x * 8 + b) &&& 7 = b := by
  rw [show (7 : Nat) = 2 ^ 3 - 1 by decide, Nat.and_two_pow_sub_one_eq_mod]
  omega
theorem zP_ch_eq {W : Nat} {lz al : Nat → Nat} {q : zTt} {p : zMf} (hW : W ≤ 8) {k g d : Nat} (hk : k < 3) (R : zP_r W lz al g q p) (h : zP_V W k g d) : zT_choice W q.1 q.2.1 q.2.2 k g d = p.2.2.1 (6561 * k + g) := by
  obtain ⟨-, r2, -, r4, r5, -⟩ := R
  unfold zT_choice
  by_cases e : p.1 g = 0
  · obtain ⟨b0, a1, a2, a3, -, -, a6⟩ := (r5 e).2 k hk
    have dW := (zP_side_V (v := 0) hW (by decide) h a1 a3 a6).2
    rw [if_neg (by rw [r2.mpr e]; omega), a2]
    rcases (show k = 0 ∨ k = 1 ∨ k = 2 by omega) with rfl | rfl | rfl
    · rw [if_pos rfl, (r5 e).1.1, a2, Nat.add_sub_cancel, zP_and7 (by omega)]
    · rw [if_neg (by decide), if_pos rfl, (r5 e).1.2, a2, Nat.add_sub_cancel, zP_and7 (by omega)]
    · rw [if_neg (by decide), if_neg (by decide)]
      have c1 := (h.2.2.2 rfl b0 a1).mp a3
      have c2 : ¬ b0 < W - 1 - d := fun z => a6 rfl (W - 1 - d) z (by omega) ((h.2.2.2 rfl (W - 1 - d) (by omega)).mpr (by omega))
      omega
  · rw [if_pos (Or.inr (fun z => e (r2.mp z))), ((r4 e).2 k hk).1]
theorem zP_ch_0 {W : Nat} {lz al : Nat → Nat} {q : zTt} {p : zMf} {k g : Nat} (hk : k < 3) (R : zP_r W lz al g q p) : (p.2.2.1 (6561 * k + g) = 0) ↔ ¬ p.1 g = 0 := by
  obtain ⟨-, -, -, r4, r5, -⟩ := R
  constructor
  · intro z e
    obtain ⟨b0, a1, a2, -⟩ := (r5 e).2 k hk
    omega
  · intro e
    exact ((r4 e).2 k hk).1
theorem zP_TV {W : Nat} {lz al : Nat → Nat} {q : zTt} {p : zMf} (hW : W ≤ 8) {k : Nat} (hk : k < 3) (R : zP_R W lz al (3 ^ W) q p) : zT_V W (3 ^ W) q.1 q.2.1 q.2.2 k (zP_V W k) := by
  intro g d h
  have r := R g h.1
  have e := zP_ch_eq hW hk r h
  refine ⟨h.2.1, h.1, fun hc => ?_⟩
  rw [e] at hc ⊢
  have on0 : p.1 g = 0 := Decidable.byContradiction fun z => hc ((zP_ch_0 hk r).mpr z)
  obtain ⟨b0, a1, a2, a3, -, -, a6⟩ := (r.2.2.2.2.1 on0).2 k hk
  have s0 := zP_side_V (v := 0) hW (by decide) h a1 a3 a6
  have s1 := zP_side_V (v := 1) hW (by decide) h a1 a3 a6
  rw [a2, Nat.add_sub_cancel]
  exact ⟨a1, s0.2, zM_dg_side a3, s0.1, s1.1⟩
theorem zP_deep {W : Nat} {lz al : Nat → Nat} {q : zTt} {p : zMf} (hW : W ≤ 8) {k : Nat} (hk : k < 3) (R : zP_R W lz al (3 ^ W) q p) : ∀ (f g d : Nat), zP_V W k g d → W - d < f → zT_deep (zT_choice W q.1 q.2.1 q.2.2 k) f g d = p.2.2.2.1 (6561 * k + g)
  | 0, _, _, _, hf => by omega
  | f + 1, g, d, h, hf => by
    have r := R g h.1
    rw [zT_deep, zP_ch_eq hW hk r h]
    by_cases on0 : p.1 g = 0
    · obtain ⟨b0, a1, a2, a3, a4, -, a6⟩ := (r.2.2.2.2.1 on0).2 k hk
      have s0 := zP_side_V (v := 0) hW (by decide) h a1 a3 a6
      have s1 := zP_side_V (v := 1) hW (by decide) h a1 a3 a6
      rw [if_neg (by omega), a2, Nat.add_sub_cancel, zP_deep hW hk R f _ _ s0.1 (by omega), zP_deep hW hk R f _ _ s1.1 (by omega), a4]
    · rw [if_pos ((zP_ch_0 hk r).mpr on0), ((r.2.2.2.1 on0).2 k hk).2.1]
theorem zP_total {W : Nat} {lz al : Nat → Nat} {q : zTt} {p : zMf} (hW : W ≤ 8) {k : Nat} (hk : k < 3) (R : zP_R W lz al (3 ^ W) q p) : ∀ (f g d : Nat), zP_V W k g d → W - d < f → zT_total (zT_choice W q.1 q.2.1 q.2.2 k) W f g d = p.2.2.2.2 (6561 * k + g)
  | 0, _, _, _, hf => by omega
  | f + 1, g, d, h, hf => by
    have r := R g h.1
    rw [zT_total, zP_ch_eq hW hk r h]
    by_cases on0 : p.1 g = 0
    · obtain ⟨b0, a1, a2, a3, -, a5, a6⟩ := (r.2.2.2.2.1 on0).2 k hk
      have s0 := zP_side_V (v := 0) hW (by decide) h a1 a3 a6
      have s1 := zP_side_V (v := 1) hW (by decide) h a1 a3 a6
      have nf := h.2.2.1
      rw [if_neg (by omega), a2, Nat.add_sub_cancel, zP_total hW hk R f _ _ s0.1 (by omega), zP_total hW hk R f _ _ s1.1 (by omega), a5, r.1, Nat.one_mul, show W - d = zP_nf g 8 by omega]
    · rw [if_pos ((zP_ch_0 hk r).mpr on0), ((r.2.2.2.1 on0).2 k hk).2.2]
/-! the same tree: by recursion and by the stack -/
/-- what both growings need of the tables -/
def zP_tt (W kd : Nat) (on bt : Nat → Nat) (ch : Nat → Nat → Nat) (V : Nat → Nat → Prop) : Prop := ∀ g d, V g d → g < 6561 ∧ d ≤ W ∧ ch g d = bt (6561 * kd + g) ∧ (ch g d = 0 ↔ ¬ on g = 0) ∧
  (¬ ch g d = 0 → ch g d - 1 < 8 ∧ d < W ∧ (2 - 0) * 3 ^ (ch g d - 1) ≤ g ∧ V (g - (2 - 0) * 3 ^ (ch g d - 1)) (d + 1) ∧ V (g - (2 - 1) * 3 ^ (ch g d - 1)) (d + 1))
theorem zP_tt_of {W : Nat} {lz al : Nat → Nat} {q : zTt} {p : zMf} (hW : W ≤ 8) {k : Nat} (hk : k < 3) (R : zP_R W lz al (3 ^ W) q p) : zP_tt W k p.1 p.2.2.1 (zT_choice W q.1 q.2.1 q.2.2 k) (zP_V W k) := by
  intro g d h
  have r := R g h.1
  have e := zP_ch_eq hW hk r h
  have tv := zP_TV hW hk R g d h
  refine ⟨Nat.lt_of_lt_of_le h.1 (zP_3W hW), h.2.1, e, by rw [e]; exact zP_ch_0 hk r, fun hc => ?_⟩
  obtain ⟨a, b, c, d1, e1⟩ := tv.2.2 hc
  exact ⟨by omega, b, c, d1, e1⟩
theorem zM_ti_add {on bt : Nat → Nat} {kd : Nat} {q : zMt} : ∀ (a b : Nat), zM_ti on bt kd (a + b) q = zM_ti on bt kd a (zM_ti on bt kd b q)
  | 0, b => by rw [Nat.zero_add]; rfl
  | a + 1, b => by
    rw [show a + 1 + b = (a + b) + 1 by omega, zM_ti, zM_ti_add a b]
    rfl
theorem zP_cnt_le {W kd : Nat} {on bt : Nat → Nat} {ch : Nat → Nat → Nat} {V : Nat → Nat → Prop} (h : zP_tt W kd on bt ch V) : ∀ (f g d : Nat), V g d → zR_cnt ch f g d + 1 ≤ 2 * 2 ^ (W - d)
  | 0, g, d, _ => by
    have := Nat.two_pow_pos (W - d)
    rw [zR_cnt]; omega
  | f + 1, g, d, hg => by
    have := Nat.two_pow_pos (W - d)
    by_cases c : ch g d = 0
    · rw [zR_cnt_l c]; omega
    · obtain ⟨-, -, -, -, h5⟩ := h g d hg
      obtain ⟨-, dW, -, v0, v1⟩ := h5 c
      have i0 := zP_cnt_le h f _ _ v0
      have i1 := zP_cnt_le h f _ _ v1
      rw [zR_cnt_n c]
      have e : 2 ^ (W - d) = 2 * 2 ^ (W - (d + 1)) := by
        rw [show W - d = (W - (d + 1)) + 1 by omega, Nat.pow_succ, Nat.mul_comm]
      rw [e]
      omega
theorem zz_cnt_app {P : Nat → Bool} : ∀ (a i b : Nat), zz_cnt P i (a + b) = zz_cnt P i a + zz_cnt P (i + a) b
  | 0, i, b => by rw [Nat.zero_add, zz_cnt, Nat.zero_add]; rfl
  | a + 1, i, b => by
    rw [show a + 1 + b = (a + b) + 1 by omega, zz_cnt, zz_cnt, zz_cnt_app a (i + 1) b, show i + 1 + a = i + (a + 1) by omega]
    omega
theorem zz_cnt_congr {P Q : Nat → Bool} : ∀ (r i : Nat), (∀ j, i ≤ j → j < i + r → P j = Q j) → zz_cnt P i r = zz_cnt Q i r
  | 0, _, _ => rfl
  | r + 1, i, h => by
    rw [zz_cnt, zz_cnt, h i (Nat.le_refl i) (by omega), zz_cnt_congr r (i + 1) (fun j h1 h2 => h j (by omega) (by omega))]
