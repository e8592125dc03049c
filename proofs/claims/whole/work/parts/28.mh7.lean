/-! the reference's calls from outside -/
theorem zM_in_ok {w lo m : Nat} (h0 : lo ≤ w) (h : w ≤ m) (hm : m < 2 ^ 31) : zM_in (nI w) (nI lo) (nI m) = true := by
  simp only [zM_in, Bool.and_eq_true, Bool.not_eq_true', decide_eq_false_iff_not]
  rw [zz_lt (by omega) (by omega), zz_lt hm (by omega)]
  omega
theorem zM_in_o {f : Nat} (h : f ≤ 8) : zM_in (zz_o f) (-1) (nI 7) = true := by
  have : f = 0 ∨ f = 1 ∨ f = 2 ∨ f = 3 ∨ f = 4 ∨ f = 5 ∨ f = 6 ∨ f = 7 ∨ f = 8 := by omega
  rcases this with rfl | rfl | rfl | rfl | rfl | rfl | rfl | rfl | rfl <;> decide
theorem zM_right_ok {xw w f : Nat} (hW : xw ≤ 8) (h : w < 1 * 2 ^ xw) (hf : f < 256) : zM_right xw (nI w) (nI f) = true := by
  have p2 := zz_2le (a := 1) hW
  unfold zM_right
  rw [zM_in_ok (Nat.zero_le _) (by omega) (by omega), zM_in_ok (Nat.zero_le _) (by omega) (by omega)]
  rfl
theorem zM_and7 (x : Int32) : x &&& nI 7 = nI (x.toBitVec.toNat % 8) := by
  have e := zz_self x
  generalize x.toBitVec.toNat = n at e ⊢
  subst e
  rw [zz_and, show (7 : Nat) = 2 ^ 3 - 1 by decide, Nat.and_two_pow_sub_one_eq_mod]
theorem zM_u_made : zz_up (zz_up (zz_up (zz_up (zz_up (zz_up (zz_up (zz_up (zz_up (fun _ => 0) 0 1) 1 3) 2 9) 3 27) 4 81) 5 243) 6 729) 7 2187) 8 6561 = zM_u := by
  funext j
  by_cases h : j < 9
  · have : j = 0 ∨ j = 1 ∨ j = 2 ∨ j = 3 ∨ j = 4 ∨ j = 5 ∨ j = 6 ∨ j = 7 ∨ j = 8 := by omega
    rcases this with rfl | rfl | rfl | rfl | rfl | rfl | rfl | rfl | rfl <;> decide
  · unfold zM_u
    rw [if_neg h]
    simp only [zz_up]
    repeat rw [if_neg (by omega)]
abbrev zMf : Type := (Nat → Nat) × (Nat → Nat) × (Nat → Nat) × (Nat → Nat) × (Nat → Nat)
/-- all tables, set by set: one, many, bit, worst, together -/
def zM_f1 (xw s : Nat) (al : Nat → Nat) (q : zMf) : zMf :=
  ((zM_w1 xw s al q.1 q.2.1).1, (zM_w1 xw s al q.1 q.2.1).2, zM_wk (zM_w1 xw s al q.1 q.2.1).1 (zM_w1 xw s al q.1 q.2.1).2 xw s q.2.2)
def zM_fill (xw : Nat) (al : Nat → Nat) : Nat → zMf → zMf
  | 0, q => q
  | s + 1, q => zM_f1 xw s al (zM_fill xw al s q)
def zM_fv (xw : Nat) (al : Nat → Nat) (s : Nat) (q : zMf) : Prop :=
  (∀ j, q.1 j ≤ 256) ∧ (zz_any (fun b => decide (zM_dg s b = 2)) 0 xw = false → zM_ow s 0 xw 0 < 256) ∧ (zM_w1 xw s al q.1 q.2.1).2 s ≤ 256 ∧ (zM_w1 xw s al q.1 q.2.1).1 s ≤ 256 ∧
  ∀ k, k < 3 → ∀ b, b < xw → zM_dg s b = 2 → q.2.2.2.1 (6561 * k + (s - (2 - 0) * 3 ^ b)) ≤ 8 ∧ q.2.2.2.1 (6561 * k + (s - (2 - 1) * 3 ^ b)) ≤ 8 ∧ q.2.2.2.2 (6561 * k + (s - (2 - 0) * 3 ^ b)) ≤ 2048 ∧ q.2.2.2.2 (6561 * k + (s - (2 - 1) * 3 ^ b)) ≤ 2048
def zM_eok (xw : Nat) (m v n f : Int32) : Bool := zM_in m (nI 0) (nI (1 * 2 ^ xw - 1)) && (decide (v &&& (m ^^^ -1) = 0) && (zM_in n (nI 1) (nI 3) && zM_in f (-1) (nI 7)))
/-- how many among i .. of r -/
def zz_cnt (P : Nat → Bool) : Nat → Nat → Nat
  | _, 0 => 0
  | i, r + 1 => zz_b (P i) + zz_cnt P (i + 1) r
theorem zz_cnt_s {P : Nat → Bool} {i n : Nat} (h : i < n) : zz_cnt P i (n - i) = zz_b (P i) + zz_cnt P (i + 1) (n - (i + 1)) := by
  rw [show n - i = (n - (i + 1)) + 1 by omega, zz_cnt]
theorem zz_cnt_e {P : Nat → Bool} {i n : Nat} (h : n ≤ i) : zz_cnt P i (n - i) = 0 := by rw [Nat.sub_eq_zero_of_le h]; rfl
def zM_all (P : Nat → Bool) : Nat → Nat → Bool → Bool
  | _, 0, a => a
  | i, r + 1, a => zM_all P (i + 1) r (a && P i)
theorem zM_all_s {P : Nat → Bool} {i n : Nat} {a : Bool} (h : i < n) : zM_all P i (n - i) a = zM_all P (i + 1) (n - (i + 1)) (a && P i) := by
  rw [show n - i = (n - (i + 1)) + 1 by omega, zM_all]
theorem zM_all_e {P : Nat → Bool} {i n : Nat} {a : Bool} (h : n ≤ i) : zM_all P i (n - i) a = a := by rw [Nat.sub_eq_zero_of_le h]; rfl
theorem zM_or_s {P : Nat → Bool} {i n : Nat} {a : Bool} (h : i < n) : zM_or P i (n - i) a = zM_or P (i + 1) (n - (i + 1)) (a || P i) := by
  rw [show n - i = (n - (i + 1)) + 1 by omega, zM_or]
theorem zM_or_e {P : Nat → Bool} {i n : Nat} {a : Bool} (h : n ≤ i) : zM_or P i (n - i) a = a := by rw [Nat.sub_eq_zero_of_le h]; rfl
theorem zM_cross_s {mk vl : Nat → Nat} {n i : Nat} {a : Bool} (h : i < n) : zM_cross mk vl n i (n - i) a = zM_cross mk vl n (i + 1) (n - (i + 1)) (zM_or (zM_x mk vl i) 0 i a) := by
  rw [show n - i = (n - (i + 1)) + 1 by omega, zM_cross]
theorem zM_cross_e {mk vl : Nat → Nat} {n i : Nat} {a : Bool} (h : n ≤ i) : zM_cross mk vl n i (n - i) a = a := by rw [Nat.sub_eq_zero_of_le h]; rfl
/-- the waiting words, moved by n, i of them so far -/
def zM_shf (f : Nat → Nat) (n i : Nat) : Nat → Nat := fun j => if j < i then f (j + n) else f j
theorem zM_shf_0 (f : Nat → Nat) (n : Nat) : zM_shf f n 0 = f := by funext j; simp [zM_shf]
theorem zM_shf_up {f : Nat → Nat} {n i : Nat} : zz_up (zM_shf f n i) i (zM_shf f n i (i + n)) = zM_shf f n (i + 1) := by
  funext j
  simp only [zz_up, zM_shf]
  by_cases h : j = i
  · subst h
    rw [if_pos rfl, if_neg (by omega), if_pos (by omega)]
  · rw [if_neg h]
    by_cases h2 : j < i
    · rw [if_pos h2, if_pos (by omega)]
    · rw [if_neg h2, if_neg (by omega)]
