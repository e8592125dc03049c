/-! more of what the methods do: the counting pass, growing -/
def zT_ref (W G : Nat) (lz : Nat → Nat) (cur : Bool) (q : zTt) : zTt := if cur = true then q else zT_fill W lz G q
/-- what the counting gives at i: numbers in range, sides that are there -/
def zT_okat (W ww i : Nat) : Prop := (zT_at i).1 < 256 ∧ (zT_at i).2 < ww ∧ (∀ b, b < W → (zT_at i).1 / 2 ^ b &&& 1 = 1 → (2 - 0) * 3 ^ b ≤ i) ∧ (0 < (zT_at i).1 → (2 - 0) * 3 ^ zz_ntz 8 (zT_at i).1 ≤ i)
def zT_bnd (q : zTt) : Prop := (∀ j, q.1 j ≤ 16384) ∧ (∀ j, q.2.1 j < 2097152) ∧ ∀ j, q.2.2 j < 2097152
def zR_has (x : Int32) (rn : Nat) : Bool := !decide (x < 0) && !decide (nI rn ≤ x)
def zR_U (M : Nat) (tb zr on : Nat → Nat) (U : Nat → Prop) : Prop := ∀ k, U k → k < M ∧ tb k ≤ 8 ∧ (¬ tb k = 0 → (¬ zr k = 0 ∧ U (zr k - 1)) ∧ ¬ on k = 0 ∧ U (on k - 1))
theorem zE_lists_s {mk vl lz : Nat → Nat} {un k i n : Nat} (h : i < n) : zE_lists mk vl un k i (n - i) lz = zE_lists mk vl un k (i + 1) (n - (i + 1)) (if zE_fit mk vl i k && decide (lz i &&& un = 0) then zz_up lz i (lz i ||| 1 * 2 ^ k) else lz) := by
  rw [show n - i = (n - (i + 1)) + 1 by omega, zE_lists]
theorem zz_pow14 {k : Nat} (h : k < 14) : 1 * 2 ^ k ≤ 8192 := by
  have := Nat.pow_le_pow_right (n := 2) (by decide) (show k ≤ 13 by omega)
  omega
theorem zz_or14 {a b : Nat} (h : a < 16384) (hb : b ≤ 8192) : a ||| b < 16384 := Nat.or_lt_two_pow (n := 14) h (by omega)
