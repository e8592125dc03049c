/-! the class's calls from outside, where nothing is thrown -/
theorem zD_isW_ok {bw w : Nat} (hW : bw ≤ 8) (h : w < 1 * 2 ^ bw) : zD_isW bw (nI w) = true := by
  have p2 := zz_2le (a := 1) hW
  simp only [zD_isW, Bool.and_eq_true, Bool.not_eq_true', decide_eq_false_iff_not]
  rw [zz_lt0 (by omega), zz_le (by omega) (by omega)]
  omega
theorem zD_isF_ok {w : Nat} (h : w < 256) : zD_isF (nI w) = true := by
  simp only [zD_isF, Bool.and_eq_true, Bool.not_eq_true', decide_eq_false_iff_not]
  rw [zz_lt0 (by omega), zz_lt (by omega) (by omega)]
  omega
theorem zD_isK_ok {w : Nat} (h : w < 3) : zD_isK (nI w) = true := by
  simp only [zD_isK, Bool.and_eq_true, Bool.not_eq_true', decide_eq_false_iff_not]
  rw [zz_lt0 (by omega), zz_lt (by omega) (by omega)]
  omega
theorem zR_has_ok {k rn : Nat} (h : k < rn) (hr : rn < 2 ^ 31) : zR_has (nI k) rn = true := by
  simp only [zR_has, Bool.and_eq_true, Bool.not_eq_true', decide_eq_false_iff_not]
  rw [zz_lt0 (by omega), zz_le (by omega) (by omega)]
  omega
theorem zz_o_nlt {f : Nat} (h : f ≤ 8) : ¬ zz_o f < -1 := by
  have : f = 0 ∨ f = 1 ∨ f = 2 ∨ f = 3 ∨ f = 4 ∨ f = 5 ∨ f = 6 ∨ f = 7 ∨ f = 8 := by omega
  rcases this with rfl | rfl | rfl | rfl | rfl | rfl | rfl | rfl | rfl <;> decide
theorem zz_o_le7 {f : Nat} (h : f ≤ 8) : zz_o f ≤ nI 7 := by
  have : f = 0 ∨ f = 1 ∨ f = 2 ∨ f = 3 ∨ f = 4 ∨ f = 5 ∨ f = 6 ∨ f = 7 ∨ f = 8 := by omega
  rcases this with rfl | rfl | rfl | rfl | rfl | rfl | rfl | rfl | rfl <;> decide
