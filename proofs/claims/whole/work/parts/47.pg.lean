/-! the same tree, node by node -/
/-- a node of both trees; hi: behind its subtree's last -/
def zP_nd (ch : Nat → Nat → Nat) (cm : Nat → Nat) (V : Nat → Nat → Prop) (se ze no tb zr on dp li : Nat → Nat) (hi j : Nat) : Prop :=
  V (se j) (dp j) ∧ tb j = ch (se j) (dp j) ∧ zr j = ze j ∧ on j = no j ∧ (tb j = 0 → li j = cm (se j) - 1 ∧ ze j = 0 ∧ no j = 0) ∧
  (¬ tb j = 0 → li j = 0 ∧ (¬ ze j = 0 ∧ j < ze j - 1 ∧ ze j - 1 < hi ∧ dp (ze j - 1) = dp j + 1) ∧ ¬ no j = 0 ∧ j < no j - 1 ∧ no j - 1 < hi ∧ dp (no j - 1) = dp j + 1)
abbrev zP_tp (W kd : Nat) (on bt : Nat → Nat) (ch : Nat → Nat → Nat) (cm : Nat → Nat) (V : Nat → Nat → Prop) (g d k c o : Nat) (q : zMt) (r : zRt) (q' : zMt) (r' : zRt) : Prop := (q'.1 = o) ∧ (q'.2.1 = k + c) ∧ (∀ j, j < o → q'.2.2.1 j = q.2.2.1 j ∧ q'.2.2.2.1 j = q.2.2.2.1 j) ∧ (∀ j, j < k → q'.2.2.2.2.1 j = q.2.2.2.2.1 j) ∧ (∀ j, j < k → q'.2.2.2.2.2.1 j = if ¬ q.2.2.2.1 o = 0 ∧ j = q.2.2.2.1 o - 1 ∧ q.2.2.2.2.2.1 j = 0 then k + 1 else q.2.2.2.2.2.1 j) ∧ (∀ j, j < k → q'.2.2.2.2.2.2 j = if ¬ q.2.2.2.1 o = 0 ∧ j = q.2.2.2.1 o - 1 ∧ ¬ q.2.2.2.2.2.1 j = 0 then k + 1 else q.2.2.2.2.2.2 j) ∧ (∀ j, j < k → r'.1 j = r.1 j ∧ r'.2.1 j = r.2.1 j ∧ r'.2.2.1 j = r.2.2.1 j ∧ r'.2.2.2.1 j = r.2.2.2.1 j ∧ r'.2.2.2.2.1 j = r.2.2.2.2.1 j) ∧ (q'.2.2.2.2.1 k = g ∧ r'.2.2.2.1 k = d) ∧ (∀ j, k ≤ j → j < k + c → zP_nd ch cm V q'.2.2.2.2.1 q'.2.2.2.2.2.1 q'.2.2.2.2.2.2 r'.1 r'.2.1 r'.2.2.1 r'.2.2.2.1 r'.2.2.2.2.1 (k + c) j) ∧ (∀ j, q'.2.2.2.2.1 j < 6561) ∧ (∀ j, q'.2.2.2.2.2.1 j ≤ 511) ∧ (r'.2.2.2.2.2.2 = r.2.2.2.2.2.2 + zz_cnt (fun j => !decide (on (q'.2.2.2.2.1 j) = 0)) k c) ∧ (∀ i, i < c → zM_tv on bt kd (zM_ti on bt kd i q))
theorem zP_tp.op {W kd : Nat} {on bt : Nat → Nat} {ch : Nat → Nat → Nat} {cm : Nat → Nat} {V : Nat → Nat → Prop} {g d k c o : Nat} {q : zMt} {r : zRt} {q' : zMt} {r' : zRt} (h : zP_tp W kd on bt ch cm V g d k c o q r q' r') : q'.1 = o := h.1
theorem zP_tp.nn {W kd : Nat} {on bt : Nat → Nat} {ch : Nat → Nat → Nat} {cm : Nat → Nat} {V : Nat → Nat → Prop} {g d k c o : Nat} {q : zMt} {r : zRt} {q' : zMt} {r' : zRt} (h : zP_tp W kd on bt ch cm V g d k c o q r q' r') : q'.2.1 = k + c := h.2.1
theorem zP_tp.st {W kd : Nat} {on bt : Nat → Nat} {ch : Nat → Nat → Nat} {cm : Nat → Nat} {V : Nat → Nat → Prop} {g d k c o : Nat} {q : zMt} {r : zRt} {q' : zMt} {r' : zRt} (h : zP_tp W kd on bt ch cm V g d k c o q r q' r') : ∀ j, j < o → q'.2.2.1 j = q.2.2.1 j ∧ q'.2.2.2.1 j = q.2.2.2.1 j := h.2.2.1
theorem zP_tp.se {W kd : Nat} {on bt : Nat → Nat} {ch : Nat → Nat → Nat} {cm : Nat → Nat} {V : Nat → Nat → Prop} {g d k c o : Nat} {q : zMt} {r : zRt} {q' : zMt} {r' : zRt} (h : zP_tp W kd on bt ch cm V g d k c o q r q' r') : ∀ j, j < k → q'.2.2.2.2.1 j = q.2.2.2.2.1 j := h.2.2.2.1
theorem zP_tp.ze {W kd : Nat} {on bt : Nat → Nat} {ch : Nat → Nat → Nat} {cm : Nat → Nat} {V : Nat → Nat → Prop} {g d k c o : Nat} {q : zMt} {r : zRt} {q' : zMt} {r' : zRt} (h : zP_tp W kd on bt ch cm V g d k c o q r q' r') : ∀ j, j < k → q'.2.2.2.2.2.1 j = if ¬ q.2.2.2.1 o = 0 ∧ j = q.2.2.2.1 o - 1 ∧ q.2.2.2.2.2.1 j = 0 then k + 1 else q.2.2.2.2.2.1 j := h.2.2.2.2.1
theorem zP_tp.no {W kd : Nat} {on bt : Nat → Nat} {ch : Nat → Nat → Nat} {cm : Nat → Nat} {V : Nat → Nat → Prop} {g d k c o : Nat} {q : zMt} {r : zRt} {q' : zMt} {r' : zRt} (h : zP_tp W kd on bt ch cm V g d k c o q r q' r') : ∀ j, j < k → q'.2.2.2.2.2.2 j = if ¬ q.2.2.2.1 o = 0 ∧ j = q.2.2.2.1 o - 1 ∧ ¬ q.2.2.2.2.2.1 j = 0 then k + 1 else q.2.2.2.2.2.2 j := h.2.2.2.2.2.1
theorem zP_tp.fr {W kd : Nat} {on bt : Nat → Nat} {ch : Nat → Nat → Nat} {cm : Nat → Nat} {V : Nat → Nat → Prop} {g d k c o : Nat} {q : zMt} {r : zRt} {q' : zMt} {r' : zRt} (h : zP_tp W kd on bt ch cm V g d k c o q r q' r') : ∀ j, j < k → r'.1 j = r.1 j ∧ r'.2.1 j = r.2.1 j ∧ r'.2.2.1 j = r.2.2.1 j ∧ r'.2.2.2.1 j = r.2.2.2.1 j ∧ r'.2.2.2.2.1 j = r.2.2.2.2.1 j := h.2.2.2.2.2.2.1
theorem zP_tp.rt {W kd : Nat} {on bt : Nat → Nat} {ch : Nat → Nat → Nat} {cm : Nat → Nat} {V : Nat → Nat → Prop} {g d k c o : Nat} {q : zMt} {r : zRt} {q' : zMt} {r' : zRt} (h : zP_tp W kd on bt ch cm V g d k c o q r q' r') : q'.2.2.2.2.1 k = g ∧ r'.2.2.2.1 k = d := h.2.2.2.2.2.2.2.1
theorem zP_tp.nd {W kd : Nat} {on bt : Nat → Nat} {ch : Nat → Nat → Nat} {cm : Nat → Nat} {V : Nat → Nat → Prop} {g d k c o : Nat} {q : zMt} {r : zRt} {q' : zMt} {r' : zRt} (h : zP_tp W kd on bt ch cm V g d k c o q r q' r') : ∀ j, k ≤ j → j < k + c → zP_nd ch cm V q'.2.2.2.2.1 q'.2.2.2.2.2.1 q'.2.2.2.2.2.2 r'.1 r'.2.1 r'.2.2.1 r'.2.2.2.1 r'.2.2.2.2.1 (k + c) j := h.2.2.2.2.2.2.2.2.1
theorem zP_tp.sb {W kd : Nat} {on bt : Nat → Nat} {ch : Nat → Nat → Nat} {cm : Nat → Nat} {V : Nat → Nat → Prop} {g d k c o : Nat} {q : zMt} {r : zRt} {q' : zMt} {r' : zRt} (h : zP_tp W kd on bt ch cm V g d k c o q r q' r') : ∀ j, q'.2.2.2.2.1 j < 6561 := h.2.2.2.2.2.2.2.2.2.1
theorem zP_tp.zb {W kd : Nat} {on bt : Nat → Nat} {ch : Nat → Nat → Nat} {cm : Nat → Nat} {V : Nat → Nat → Prop} {g d k c o : Nat} {q : zMt} {r : zRt} {q' : zMt} {r' : zRt} (h : zP_tp W kd on bt ch cm V g d k c o q r q' r') : ∀ j, q'.2.2.2.2.2.1 j ≤ 511 := h.2.2.2.2.2.2.2.2.2.2.1
theorem zP_tp.lv {W kd : Nat} {on bt : Nat → Nat} {ch : Nat → Nat → Nat} {cm : Nat → Nat} {V : Nat → Nat → Prop} {g d k c o : Nat} {q : zMt} {r : zRt} {q' : zMt} {r' : zRt} (h : zP_tp W kd on bt ch cm V g d k c o q r q' r') : r'.2.2.2.2.2.2 = r.2.2.2.2.2.2 + zz_cnt (fun j => !decide (on (q'.2.2.2.2.1 j) = 0)) k c := h.2.2.2.2.2.2.2.2.2.2.2.1
theorem zP_tp.tv {W kd : Nat} {on bt : Nat → Nat} {ch : Nat → Nat → Nat} {cm : Nat → Nat} {V : Nat → Nat → Prop} {g d k c o : Nat} {q : zMt} {r : zRt} {q' : zMt} {r' : zRt} (h : zP_tp W kd on bt ch cm V g d k c o q r q' r') : ∀ i, i < c → zM_tv on bt kd (zM_ti on bt kd i q) := h.2.2.2.2.2.2.2.2.2.2.2.2
/-- one turn of the stack's loop: the sides of the parent -/
def zP_ZE (p k : Nat) (ze : Nat → Nat) : Nat → Nat := if p = 0 then zz_up ze k 0 else if zz_up ze k 0 (p - 1) = 0 then zz_up (zz_up ze k 0) (p - 1) (k + 1) else zz_up ze k 0
def zP_NO (p k : Nat) (ze no : Nat → Nat) : Nat → Nat := if p = 0 then zz_up no k 0 else if zz_up ze k 0 (p - 1) = 0 then zz_up no k 0 else zz_up (zz_up no k 0) (p - 1) (k + 1)
theorem zP_ZE_lt {p k : Nat} {ze : Nat → Nat} (hp : p ≤ k) {j : Nat} (hj : j < k) : zP_ZE p k ze j = if ¬ p = 0 ∧ j = p - 1 ∧ ze j = 0 then k + 1 else ze j := by
  unfold zP_ZE
  by_cases h0 : p = 0
  · rw [if_pos h0, if_neg (fun z => z.1 h0), zz_up_n (by omega)]
  · rw [if_neg h0, zz_up_n (show p - 1 ≠ k by omega)]
    by_cases hz : ze (p - 1) = 0
    · rw [if_pos hz]
      by_cases e : j = p - 1
      · rw [e, zz_up_s, if_pos ⟨h0, rfl, hz⟩]
      · rw [zz_up_n e, zz_up_n (by omega), if_neg (fun z => e z.2.1)]
    · rw [if_neg hz, zz_up_n (by omega), if_neg (fun z => by rw [z.2.1] at z; exact hz z.2.2)]
theorem zP_ZE_k {p k : Nat} {ze : Nat → Nat} (hp : p ≤ k) : zP_ZE p k ze k = 0 := by
  unfold zP_ZE
  split
  · exact zz_up_s
  · split
    · rw [zz_up_n (by omega)]; exact zz_up_s
    · exact zz_up_s
theorem zP_ZE_le {p k : Nat} {ze : Nat → Nat} (hk : k < 511) (h : ∀ j, ze j ≤ 511) : ∀ j, zP_ZE p k ze j ≤ 511 := by
  unfold zP_ZE
  split
  · exact zz_up_le h (by omega)
  · split
    · exact zz_up_le (zz_up_le h (by omega)) (by omega)
    · exact zz_up_le h (by omega)
theorem zP_NO_lt {p k : Nat} {ze no : Nat → Nat} (hp : p ≤ k) {j : Nat} (hj : j < k) : zP_NO p k ze no j = if ¬ p = 0 ∧ j = p - 1 ∧ ¬ ze j = 0 then k + 1 else no j := by
  unfold zP_NO
  by_cases h0 : p = 0
  · rw [if_pos h0, if_neg (fun z => z.1 h0), zz_up_n (by omega)]
  · rw [if_neg h0, zz_up_n (show p - 1 ≠ k by omega)]
    by_cases hz : ze (p - 1) = 0
    · rw [if_pos hz, zz_up_n (by omega), if_neg (fun z => by rw [z.2.1] at z; exact z.2.2 hz)]
    · rw [if_neg hz]
      by_cases e : j = p - 1
      · rw [e, zz_up_s, if_pos ⟨h0, rfl, hz⟩]
      · rw [zz_up_n e, zz_up_n (by omega), if_neg (fun z => e z.2.1)]
theorem zP_NO_k {p k : Nat} {ze no : Nat → Nat} (hp : p ≤ k) : zP_NO p k ze no k = 0 := by
  unfold zP_NO
  split
  · exact zz_up_s
  · split
    · exact zz_up_s
    · rw [zz_up_n (by omega)]; exact zz_up_s
theorem zP_ts_l {on bt : Nat → Nat} {kd o : Nat} {q : zMt} (ho : q.1 = o + 1) (h : ¬ on (q.2.2.1 o) = 0) : zM_ts on bt kd q = (o, q.2.1 + 1, q.2.2.1, q.2.2.2.1, zz_up q.2.2.2.2.1 q.2.1 (q.2.2.1 o), zP_ZE (q.2.2.2.1 o) q.2.1 q.2.2.2.2.2.1, zP_NO (q.2.2.2.1 o) q.2.1 q.2.2.2.2.2.1 q.2.2.2.2.2.2) := by
  unfold zM_ts
  rw [show q.1 - 1 = o by omega, if_neg h]
  rfl
theorem zP_ts_m {on bt : Nat → Nat} {kd o : Nat} {q : zMt} (ho : q.1 = o + 1) (h : on (q.2.2.1 o) = 0) : zM_ts on bt kd q = (o + 2, q.2.1 + 1,
     zz_up (zz_up q.2.2.1 o (q.2.2.1 o - (2 - 1) * 3 ^ (bt (6561 * kd + q.2.2.1 o) - 1))) (o + 1) (q.2.2.1 o - (2 - 0) * 3 ^ (bt (6561 * kd + q.2.2.1 o) - 1)),
     zz_up (zz_up q.2.2.2.1 o (q.2.1 + 1)) (o + 1) (q.2.1 + 1), zz_up q.2.2.2.2.1 q.2.1 (q.2.2.1 o), zP_ZE (q.2.2.2.1 o) q.2.1 q.2.2.2.2.2.1, zP_NO (q.2.2.2.1 o) q.2.1 q.2.2.2.2.2.1 q.2.2.2.2.2.2) := by
  unfold zM_ts
  rw [show q.1 - 1 = o by omega, if_pos h]
  rfl
theorem zP_tree {W kd : Nat} {on bt : Nat → Nat} {ch : Nat → Nat → Nat} {cm : Nat → Nat} {V : Nat → Nat → Prop} (T : zP_tt W kd on bt ch V) :
    ∀ (f g d : Nat), V g d → W - d < f → ∀ (q : zMt) (r : zRt) (o : Nat), q.1 = o + 1 → q.2.2.1 o = g → r.2.2.2.2.2.1 = q.2.1 → q.2.2.2.1 o ≤ q.2.1 → o + 1 + (W - d) ≤ 517 → q.2.1 + zR_cnt ch f g d ≤ 511 → (∀ j, q.2.2.2.2.1 j < 6561) → (∀ j, q.2.2.2.2.2.1 j ≤ 511) →
      zP_tp W kd on bt ch cm V g d q.2.1 (zR_cnt ch f g d) o q r (zM_ti on bt kd (zR_cnt ch f g d) q) (zR_grow ch cm f g d r)
  | 0, g, d, hg, hf, q, r, o, _, _, _, _, _, _, _, _ => by omega
  | f + 1, g, d, hg, hf, q, r, o, hq1, hqo, hrn, hp, ho, hc, hsb, hzb => by
    obtain ⟨t1, t2, t3, t4, t5⟩ := T g d hg
    have tv0 : q.2.1 < 511 → zM_tv on bt kd q := by
      intro hk
      refine ⟨by omega, by omega, hk, ?_, ?_, hsb, hzb, ?_⟩
      · rw [hq1, Nat.add_sub_cancel, hqo]; exact t1
      · rw [hq1, Nat.add_sub_cancel]; omega
      · rw [hq1, Nat.add_sub_cancel, hqo]
        intro h0
        have c0 : ¬ ch g d = 0 := fun z => t4.mp z h0
        obtain ⟨u1, u2, u3, -⟩ := t5 c0
        rw [← t3]
        exact ⟨c0, by omega, u3⟩
    by_cases c0 : ch g d = 0
    · -- a leaf
      have ol : ¬ on (q.2.2.1 o) = 0 := by rw [hqo]; exact t4.mp c0
      rw [zR_cnt_l c0] at hc ⊢
      rw [zR_grow_l c0]
      show zP_tp W kd on bt ch cm V g d q.2.1 1 o q r (zM_ts on bt kd q) (zR_put cm g d r)
      rw [zP_ts_l hq1 ol]
      have sek : zz_up q.2.2.2.2.1 q.2.1 (q.2.2.1 o) q.2.1 = g := zz_up_s.trans hqo
      have dpk : zz_up r.2.2.2.1 r.2.2.2.2.2.1 d q.2.1 = d := by rw [hrn]; exact zz_up_s
      refine ⟨rfl, rfl, fun _ _ => ⟨rfl, rfl⟩, fun j hj => zz_up_n (by omega), fun j hj => zP_ZE_lt hp hj, fun j hj => zP_NO_lt hp hj, fun j hj => ?_, ⟨sek, dpk⟩, fun j h1 h2 => ?_, zz_up_lt hsb (by rw [hqo]; exact t1), zP_ZE_le (by omega) hzb, ?_, fun i hi => ?_⟩
      · have hj' : j ≠ r.2.2.2.2.2.1 := by omega
        exact ⟨zz_up_n hj', zz_up_n hj', zz_up_n hj', zz_up_n hj', zz_up_n hj'⟩
      · have e : j = q.2.1 := by omega
        subst e
        have tb : zz_up r.1 r.2.2.2.2.2.1 0 q.2.1 = 0 := by rw [hrn]; exact zz_up_s
        have zr : zz_up r.2.1 r.2.2.2.2.2.1 0 q.2.1 = 0 := by rw [hrn]; exact zz_up_s
        have nr : zz_up r.2.2.1 r.2.2.2.2.2.1 0 q.2.1 = 0 := by rw [hrn]; exact zz_up_s
        have lr : zz_up r.2.2.2.2.1 r.2.2.2.2.2.1 (cm g - 1) q.2.1 = cm g - 1 := by rw [hrn]; exact zz_up_s
        refine ⟨?_, ?_, ?_, ?_, fun _ => ⟨?_, zP_ZE_k hp, zP_NO_k hp⟩, fun z => absurd tb z⟩
        · show V (zz_up q.2.2.2.2.1 q.2.1 (q.2.2.1 o) q.2.1) (zz_up r.2.2.2.1 r.2.2.2.2.2.1 d q.2.1)
          rw [sek, dpk]; exact hg
        · show zz_up r.1 r.2.2.2.2.2.1 0 q.2.1 = ch (zz_up q.2.2.2.2.1 q.2.1 (q.2.2.1 o) q.2.1) (zz_up r.2.2.2.1 r.2.2.2.2.2.1 d q.2.1)
          rw [sek, dpk, c0]; exact tb
        · exact zr.trans (zP_ZE_k hp).symm
        · exact nr.trans (zP_NO_k hp).symm
        · show zz_up r.2.2.2.2.1 r.2.2.2.2.2.1 (cm g - 1) q.2.1 = cm (zz_up q.2.2.2.2.1 q.2.1 (q.2.2.1 o) q.2.1) - 1
          rw [sek]; exact lr
      · show r.2.2.2.2.2.2 + 1 = r.2.2.2.2.2.2 + (zz_b (!decide (on (zz_up q.2.2.2.2.1 q.2.1 (q.2.2.1 o) q.2.1) = 0)) + 0)
        rw [sek, decide_eq_false (t4.mp c0)]; rfl
      · rw [show i = 0 by omega]; exact tv0 (by omega)
    · -- a test
      have om : on (q.2.2.1 o) = 0 := by
        rw [hqo]; exact Decidable.byContradiction fun z => c0 (t4.mpr z)
      obtain ⟨u1, u2, u3, v0, v1⟩ := t5 c0
      have ecnt := zR_cnt_n (f := f) c0
      have egrow := zR_grow_n (cm := cm) (f := f) (q := r) c0
      generalize hC0 : zR_cnt ch f (g - (2 - 0) * 3 ^ (ch g d - 1)) (d + 1) = C0 at *
      generalize hC1 : zR_cnt ch f (g - (2 - 1) * 3 ^ (ch g d - 1)) (d + 1) = C1 at *
      rw [ecnt] at hc ⊢
      have hk : q.2.1 < 511 := by omega
      have hbt : bt (6561 * kd + q.2.2.1 o) = ch g d := by rw [hqo, t3]
      have ets := zP_ts_m (bt := bt) (kd := kd) hq1 om
      rw [hbt, hqo] at ets
      -- the first side
      have A := zP_tree (cm := cm) T f _ _ v0 (by omega) (zM_ts on bt kd q) (zR_down ch g d r) (o + 1) (by rw [ets]) (by rw [ets]; exact zz_up_s) (by rw [ets]; show r.2.2.2.2.2.1 + 1 = q.2.1 + 1; rw [hrn]) (by rw [ets]; show zz_up _ (o + 1) (q.2.1 + 1) (o + 1) ≤ q.2.1 + 1; rw [zz_up_s]; exact Nat.le_refl _) (by omega) (by rw [ets, hC0]; show q.2.1 + 1 + C0 ≤ 511; omega) (by rw [ets]; exact zz_up_lt hsb t1) (by rw [ets]; exact zP_ZE_le hk hzb)
      rw [hC0] at A
      have eA : (zM_ts on bt kd q).2.1 = q.2.1 + 1 := by rw [ets]
      rw [eA] at A
      have sA : ∀ j, (zM_ts on bt kd q).2.2.2.2.1 j = zz_up q.2.2.2.2.1 q.2.1 g j := by intro j; rw [ets]
      have zA : ∀ j, (zM_ts on bt kd q).2.2.2.2.2.1 j = zP_ZE (q.2.2.2.1 o) q.2.1 q.2.2.2.2.2.1 j := by intro j; rw [ets]
      have nA : ∀ j, (zM_ts on bt kd q).2.2.2.2.2.2 j = zP_NO (q.2.2.2.1 o) q.2.1 q.2.2.2.2.2.1 q.2.2.2.2.2.2 j := by intro j; rw [ets]
      have pA : (zM_ts on bt kd q).2.2.2.1 (o + 1) = q.2.1 + 1 := by rw [ets]; exact zz_up_s
      have wAo : (zM_ts on bt kd q).2.2.1 o = g - (2 - 1) * 3 ^ (ch g d - 1) := by rw [ets]; exact (zz_up_n (by omega)).trans zz_up_s
      have pAo : (zM_ts on bt kd q).2.2.2.1 o = q.2.1 + 1 := by rw [ets]; exact (zz_up_n (by omega)).trans zz_up_s
      have wAj : ∀ j, j < o → (zM_ts on bt kd q).2.2.1 j = q.2.2.1 j ∧ (zM_ts on bt kd q).2.2.2.1 j = q.2.2.2.1 j := by
        intro j hj; rw [ets]; exact ⟨(zz_up_n (by omega)).trans (zz_up_n (by omega)), (zz_up_n (by omega)).trans (zz_up_n (by omega))⟩
      clear ets
      generalize hq1' : zM_ts on bt kd q = q1 at *
      have etv0 := A.tv
      generalize hq2 : zM_ti on bt kd C0 q1 = q2 at A
      generalize hr2 : zR_grow ch cm f (g - (2 - 0) * 3 ^ (ch g d - 1)) (d + 1) (zR_down ch g d r) = r2 at A egrow
      have hr2n : r2.2.2.2.2.2.1 = q.2.1 + 1 + C0 := by
        rw [← hr2, zR_grow_rn, hC0]
        show r.2.2.2.2.2.1 + 1 + C0 = _
        rw [hrn]
      -- the other side
      have B := zP_tree (cm := cm) T f _ _ v1 (by omega) q2 (zR_mid r.2.2.2.2.2.1 r2) o A.op ((A.st o (by omega)).1.trans wAo) (by rw [A.nn]; exact hr2n) (by rw [(A.st o (by omega)).2, pAo, A.nn]; omega) (by omega) (by rw [A.nn, hC1]; omega) A.sb A.zb
      rw [hC1, A.nn] at B
      have pB : q2.2.2.2.1 o = q.2.1 + 1 := (A.st o (by omega)).2.trans pAo
      have zBk : q2.2.2.2.2.2.1 q.2.1 = q.2.1 + 1 + 1 := by
        rw [A.ze q.2.1 (by omega), pA, Nat.add_sub_cancel, if_pos ⟨by omega, rfl, by rw [zA]; exact zP_ZE_k hp⟩]
      have nBk : q2.2.2.2.2.2.2 q.2.1 = 0 := by
        rw [A.no q.2.1 (by omega), pA, Nat.add_sub_cancel, if_neg (fun z => z.2.2 (by rw [zA]; exact zP_ZE_k hp)), nA]
        exact zP_NO_k hp
      have etv1 := B.tv
      have eti : zM_ti on bt kd (1 + C0 + C1) q = zM_ti on bt kd C1 q2 := by
        rw [show 1 + C0 + C1 = C1 + (C0 + 1) by omega, zM_ti_add, zM_ti_add, ← hq2, ← hq1']
        rfl
      rw [eti, egrow]
      generalize hq3 : zM_ti on bt kd C1 q2 = q3 at B
      rw [hrn] at B ⊢
      generalize hr3 : zR_grow ch cm f (g - (2 - 1) * 3 ^ (ch g d - 1)) (d + 1) (zR_mid q.2.1 r2) = r3 at B
      rw [hr2n]
      -- what stands behind both
      have se3 : ∀ j, j < q.2.1 + 1 → q3.2.2.2.2.1 j = zz_up q.2.2.2.2.1 q.2.1 g j := fun j hj => by rw [B.se j (by omega), A.se j hj, sA]
      have ze3 : ∀ j, j < q.2.1 + 1 + C0 → q3.2.2.2.2.2.1 j = q2.2.2.2.2.2.1 j := by
        intro j hj
        rw [B.ze j hj, pB, Nat.add_sub_cancel]
        by_cases e : j = q.2.1
        · rw [if_neg (fun z => by rw [e, zBk] at z; omega)]
        · rw [if_neg (fun z => e z.2.1)]
      have no3 : ∀ j, j < q.2.1 + 1 + C0 → q3.2.2.2.2.2.2 j = if j = q.2.1 then q.2.1 + 1 + C0 + 1 else q2.2.2.2.2.2.2 j := by
        intro j hj
        rw [B.no j hj, pB, Nat.add_sub_cancel]
        by_cases e : j = q.2.1
        · rw [if_pos e, if_pos ⟨by omega, e, by rw [e, zBk]; omega⟩]
        · rw [if_neg e, if_neg (fun z => e z.2.1)]
      have ze2 : ∀ j, j < q.2.1 → q2.2.2.2.2.2.1 j = zP_ZE (q.2.2.2.1 o) q.2.1 q.2.2.2.2.2.1 j := by
        intro j hj
        rw [A.ze j (by omega), pA, Nat.add_sub_cancel, if_neg (fun z => by omega), zA]
      have no2 : ∀ j, j < q.2.1 → q2.2.2.2.2.2.2 j = zP_NO (q.2.2.2.1 o) q.2.1 q.2.2.2.2.2.1 q.2.2.2.2.2.2 j := by
        intro j hj
        rw [A.no j (by omega), pA, Nat.add_sub_cancel, if_neg (fun z => by omega), nA]
      have dn : ∀ j, j ≠ q.2.1 → (zR_down ch g d r).1 j = r.1 j ∧ (zR_down ch g d r).2.1 j = r.2.1 j ∧ (zR_down ch g d r).2.2.1 j = r.2.2.1 j ∧ (zR_down ch g d r).2.2.2.1 j = r.2.2.2.1 j ∧ (zR_down ch g d r).2.2.2.2.1 j = r.2.2.2.2.1 j := by
        intro j hj
        have hj' : j ≠ r.2.2.2.2.2.1 := by rw [hrn]; exact hj
        exact ⟨zz_up_n hj', rfl, rfl, zz_up_n hj', zz_up_n hj'⟩
      have dk : (zR_down ch g d r).1 q.2.1 = ch g d ∧ (zR_down ch g d r).2.2.2.1 q.2.1 = d ∧ (zR_down ch g d r).2.2.2.2.1 q.2.1 = 0 := by
        rw [← hrn]; exact ⟨zz_up_s, zz_up_s, zz_up_s⟩
      have fr3 : ∀ j, j < q.2.1 + 1 + C0 → r3.1 j = r2.1 j ∧ r3.2.1 j = zz_up r2.2.1 q.2.1 (q.2.1 + 1 + 1) j ∧ r3.2.2.1 j = r2.2.2.1 j ∧ r3.2.2.2.1 j = r2.2.2.2.1 j ∧ r3.2.2.2.2.1 j = r2.2.2.2.2.1 j := fun j hj => B.fr j hj
      have sek : q3.2.2.2.2.1 q.2.1 = g := (se3 q.2.1 (by omega)).trans zz_up_s
      have tbk : r3.1 q.2.1 = ch g d := by rw [(fr3 q.2.1 (by omega)).1, (A.fr q.2.1 (by omega)).1]; exact dk.1
      have dpk : r3.2.2.2.1 q.2.1 = d := by rw [(fr3 q.2.1 (by omega)).2.2.2.1, (A.fr q.2.1 (by omega)).2.2.2.1]; exact dk.2.1
      have lik : r3.2.2.2.2.1 q.2.1 = 0 := by rw [(fr3 q.2.1 (by omega)).2.2.2.2, (A.fr q.2.1 (by omega)).2.2.2.2]; exact dk.2.2
      have zrk : r3.2.1 q.2.1 = q.2.1 + 1 + 1 := (fr3 q.2.1 (by omega)).2.1.trans zz_up_s
      have c0p : 1 ≤ C0 := by
        rw [← hC0]
        cases f with
        | zero => omega
        | succ f => exact zR_cnt_pos
      have c1p : 1 ≤ C1 := by
        rw [← hC1]
        cases f with
        | zero => omega
        | succ f => exact zR_cnt_pos
      refine ⟨B.op, by rw [B.nn]; omega, fun j hj => ?_, fun j hj => by rw [se3 j (by omega)]; exact zz_up_n (by omega), fun j hj => ?_, fun j hj => ?_, fun j hj => ?_, ⟨sek, dpk⟩, fun j h1 h2 => ?_, B.sb, B.zb, ?_, fun i hi => ?_⟩
      · have a := A.st j (by omega)
        have b := B.st j hj
        exact ⟨b.1.trans (a.1.trans (wAj j hj).1), b.2.trans (a.2.trans (wAj j hj).2)⟩
      · rw [ze3 j (by omega), ze2 j hj]; exact zP_ZE_lt hp hj
      · rw [no3 j (by omega), if_neg (by omega), no2 j hj]; exact zP_NO_lt hp hj
      · have a := A.fr j (by omega)
        have b := fr3 j (by omega)
        have dj := dn j (by omega)
        refine ⟨b.1.trans (a.1.trans dj.1), ?_, ?_, b.2.2.2.1.trans (a.2.2.2.1.trans dj.2.2.2.1), b.2.2.2.2.trans (a.2.2.2.2.trans dj.2.2.2.2)⟩
        · show r3.2.1 j = _
          rw [b.2.1, zz_up_n (by omega), a.2.1]; exact dj.2.1
        · show zz_up r3.2.2.1 q.2.1 (q.2.1 + 1 + C0 + 1) j = _
          rw [zz_up_n (by omega), b.2.2.1, a.2.2.1]; exact dj.2.2.1
      · by_cases e : j = q.2.1
        · subst e
          refine ⟨?_, ?_, ?_, ?_, fun z => absurd (tbk.symm.trans z) c0, fun _ => ⟨lik, ⟨?_, ?_, ?_, ?_⟩, ?_, ?_, ?_, ?_⟩⟩
          · show V (q3.2.2.2.2.1 q.2.1) (r3.2.2.2.1 q.2.1)
            rw [sek, dpk]; exact hg
          · show r3.1 q.2.1 = ch (q3.2.2.2.2.1 q.2.1) (r3.2.2.2.1 q.2.1)
            rw [tbk, sek, dpk]
          · show r3.2.1 q.2.1 = _
            rw [zrk, ze3 _ (by omega), zBk]
          · show zz_up r3.2.2.1 q.2.1 (q.2.1 + 1 + C0 + 1) q.2.1 = _
            rw [zz_up_s, no3 _ (by omega), if_pos rfl]
          · rw [ze3 _ (by omega), zBk]; omega
          · rw [ze3 _ (by omega), zBk]; omega
          · rw [ze3 _ (by omega), zBk]; omega
          · show r3.2.2.2.1 (q3.2.2.2.2.2.1 q.2.1 - 1) = r3.2.2.2.1 q.2.1 + 1
            rw [ze3 _ (by omega), zBk, dpk, Nat.add_sub_cancel, (fr3 _ (by omega)).2.2.2.1]; exact A.rt.2
          · rw [no3 _ (by omega), if_pos rfl]; omega
          · rw [no3 _ (by omega), if_pos rfl]; omega
          · rw [no3 _ (by omega), if_pos rfl]; omega
          · show r3.2.2.2.1 (q3.2.2.2.2.2.2 q.2.1 - 1) = r3.2.2.2.1 q.2.1 + 1
            rw [no3 _ (by omega), if_pos rfl, dpk, Nat.add_sub_cancel]; exact B.rt.2
        · by_cases e2 : j < q.2.1 + 1 + C0
          · obtain ⟨n1, n2, n3, n4, n5, n6⟩ := A.nd j (by omega) e2
            have b := fr3 j e2
            have s3 : q3.2.2.2.2.1 j = q2.2.2.2.2.1 j := B.se j e2
            have z3 := ze3 j e2
            have o3 : q3.2.2.2.2.2.2 j = q2.2.2.2.2.2.2 j := by rw [no3 j e2, if_neg e]
            refine ⟨?_, ?_, ?_, ?_, fun z => ?_, fun z => ?_⟩
            · show V (q3.2.2.2.2.1 j) (r3.2.2.2.1 j)
              rw [s3, b.2.2.2.1]; exact n1
            · show r3.1 j = ch (q3.2.2.2.2.1 j) (r3.2.2.2.1 j)
              rw [s3, b.2.2.2.1, b.1]; exact n2
            · show r3.2.1 j = _
              rw [b.2.1, zz_up_n e, z3]; exact n3
            · show zz_up r3.2.2.1 q.2.1 (q.2.1 + 1 + C0 + 1) j = _
              rw [zz_up_n e, b.2.2.1, o3]; exact n4
            · have z : r3.1 j = 0 := z
              rw [b.1] at z
              rw [z3, o3, s3]
              show r3.2.2.2.2.1 j = _ ∧ _
              rw [b.2.2.2.2]; exact n5 z
            · have z : ¬ r3.1 j = 0 := z
              rw [b.1] at z
              obtain ⟨m1, ⟨m2, m3, m4, m5⟩, m6, m7, m8, m9⟩ := n6 z
              rw [z3, o3]
              refine ⟨b.2.2.2.2.trans m1, ⟨m2, m3, by omega, ?_⟩, m6, m7, by omega, ?_⟩
              · show r3.2.2.2.1 (q2.2.2.2.2.2.1 j - 1) = r3.2.2.2.1 j + 1
                rw [(fr3 _ m4).2.2.2.1, b.2.2.2.1]; exact m5
              · show r3.2.2.2.1 (q2.2.2.2.2.2.2 j - 1) = r3.2.2.2.1 j + 1
                rw [(fr3 _ m8).2.2.2.1, b.2.2.2.1]; exact m9
          · obtain ⟨n1, n2, n3, n4, n5, n6⟩ := B.nd j (by omega) (by omega)
            refine ⟨n1, n2, n3, ?_, n5, fun z => ?_⟩
            · show zz_up r3.2.2.1 q.2.1 (q.2.1 + 1 + C0 + 1) j = _
              rw [zz_up_n e]; exact n4
            · obtain ⟨m1, ⟨m2, m3, m4, m5⟩, m6, m7, m8, m9⟩ := n6 z
              exact ⟨m1, ⟨m2, m3, by omega, m5⟩, m6, m7, by omega, m9⟩
      · show r3.2.2.2.2.2.2 = _
        rw [B.lv, show 1 + C0 + C1 = (1 + C0) + C1 by omega, zz_cnt_app, zz_cnt_app 1]
        show r2.2.2.2.2.2.2 + _ = _
        rw [A.lv]
        show r.2.2.2.2.2.2 + _ + _ = _
        have e1 : zz_cnt (fun j => !decide (on (q3.2.2.2.2.1 j) = 0)) q.2.1 1 = 0 := by
          show zz_b (!decide (on (q3.2.2.2.2.1 q.2.1) = 0)) + 0 = 0
          rw [sek, decide_eq_true (show on g = 0 by rw [← hqo]; exact om)]; rfl
        have e2 : zz_cnt (fun j => !decide (on (q3.2.2.2.2.1 j) = 0)) (q.2.1 + 1) C0 = zz_cnt (fun j => !decide (on (q2.2.2.2.2.1 j) = 0)) (q.2.1 + 1) C0 := zz_cnt_congr C0 _ (fun j h1 h2 => by rw [B.se j h2])
        rw [e1, e2, show q.2.1 + (1 + C0) = q.2.1 + 1 + C0 by omega]
        omega
      · by_cases e : i = 0
        · rw [e]; exact tv0 hk
        · by_cases e2 : i < 1 + C0
          · have := etv0 (i - 1) (by omega)
            rw [show i = (i - 1) + 1 by omega, zM_ti_add]
            show zM_tv on bt kd (zM_ti on bt kd (i - 1) (zM_ts on bt kd q))
            rw [hq1']; exact this
          · have := etv1 (i - 1 - C0) (by omega)
            rw [show i = (i - 1 - C0) + (C0 + 1) by omega, zM_ti_add, zM_ti_add C0 1]
            show zM_tv on bt kd (zM_ti on bt kd (i - 1 - C0) (zM_ti on bt kd C0 (zM_ts on bt kd q)))
            rw [hq1', hq2]; exact this
