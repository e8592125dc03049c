/-! the reference's tables -/
abbrev zMc : Type := Nat × (Nat → Nat) × (Nat → Nat)
def zM_bt (k bst w t ws ts : Nat) : Bool := decide (bst = 0) || (decide (k = 2) || ((decide (k = 0) && decide (w < ws)) || (decide (k = 1) && decide (t < ts))))
def zM_ch1 (mn : Nat → Nat) (k s b : Nat) (q : zMc) : zMc :=
  if zM_dg s b = 2 then
    (if zM_bt k q.1 (1 + max (q.2.1 (6561 * k + (s - (2 - 0) * 3 ^ b))) (q.2.1 (6561 * k + (s - (2 - 1) * 3 ^ b)))) (mn s + q.2.2 (6561 * k + (s - (2 - 0) * 3 ^ b)) + q.2.2 (6561 * k + (s - (2 - 1) * 3 ^ b))) (q.2.1 (6561 * k + s)) (q.2.2 (6561 * k + s)) = true then
      (b + 1, zz_up q.2.1 (6561 * k + s) (1 + max (q.2.1 (6561 * k + (s - (2 - 0) * 3 ^ b))) (q.2.1 (6561 * k + (s - (2 - 1) * 3 ^ b)))), zz_up q.2.2 (6561 * k + s) (mn s + q.2.2 (6561 * k + (s - (2 - 0) * 3 ^ b)) + q.2.2 (6561 * k + (s - (2 - 1) * 3 ^ b))))
    else q)
  else q
def zM_ch (mn : Nat → Nat) (k s : Nat) : Nat → Nat → zMc → zMc
  | _, 0, q => q
  | b, r + 1, q => zM_ch mn k s (b + 1) r (zM_ch1 mn k s b q)
theorem zM_ch_s {mn : Nat → Nat} {k s b n : Nat} {q : zMc} (h : b < n) : zM_ch mn k s b (n - b) q = zM_ch mn k s (b + 1) (n - (b + 1)) (zM_ch1 mn k s b q) := by
  rw [show n - b = (n - (b + 1)) + 1 by omega, zM_ch]
theorem zM_ch_e {mn : Nat → Nat} {k s b n : Nat} {q : zMc} (h : n ≤ b) : zM_ch mn k s b (n - b) q = q := by rw [Nat.sub_eq_zero_of_le h]; rfl
theorem zM_ch1_no {mn : Nat → Nat} {k s b : Nat} {q : zMc} (h : ¬ zM_dg s b = 2) : zM_ch1 mn k s b q = q := if_neg h
theorem zM_bt_iff {k bst w t ws ts : Nat} : (zM_bt k bst w t ws ts = true) ↔ (bst = 0 ∨ k = 2 ∨ (k = 0 ∧ w < ws) ∨ (k = 1 ∧ t < ts)) := by
  unfold zM_bt
  simp only [Bool.or_eq_true, Bool.and_eq_true, decide_eq_true_eq]
theorem zM_bt_t {k bst w t ws ts : Nat} (h : bst = 0 ∨ k = 2 ∨ (k = 0 ∧ w < ws) ∨ (k = 1 ∧ t < ts)) : true = zM_bt k bst w t ws ts := (zM_bt_iff.mpr h).symm
theorem zM_bt_f {k bst w t ws ts : Nat} (h : ¬ (bst = 0 ∨ k = 2 ∨ (k = 0 ∧ w < ws) ∨ (k = 1 ∧ t < ts))) : false = zM_bt k bst w t ws ts := by
  cases e : zM_bt k bst w t ws ts with
  | false => rfl
  | true => exact absurd (zM_bt_iff.mp e) h
