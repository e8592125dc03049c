/-! more of what the methods do: the counting pass, growing -/
def zT_ref (W G : Nat) (lz : Nat → Nat) (cur : Bool) (q : zTt) : zTt := if cur = true then q else zT_fill W lz G q
/-- what the counting gives at i: numbers in range, sides that are there -/
def zT_okat (W ww i : Nat) : Prop := (zT_at i).1 < 256 ∧ (zT_at i).2 < ww ∧ (∀ b, b < W → (zT_at i).1 / 2 ^ b &&& 1 = 1 → (2 - 0) * 3 ^ b ≤ i) ∧ (0 < (zT_at i).1 → (2 - 0) * 3 ^ zz_ntz 8 (zT_at i).1 ≤ i)
def zT_bnd (q : zTt) : Prop := (∀ j, q.1 j ≤ 16384) ∧ (∀ j, q.2.1 j < 2097152) ∧ ∀ j, q.2.2 j < 2097152
