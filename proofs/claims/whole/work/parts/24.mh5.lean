/-! the reference's tree, by its stack: how many wait, how many nodes, what waits, its parents, sets, sides -/
abbrev zMt : Type := Nat × Nat × (Nat → Nat) × (Nat → Nat) × (Nat → Nat) × (Nat → Nat) × (Nat → Nat)
def zM_ts (on bt : Nat → Nat) (kd : Nat) (q : zMt) : zMt :=
  if on (q.2.2.1 (q.1 - 1)) = 0 then
    (q.1 - 1 + 2, q.2.1 + 1,
     zz_up (zz_up q.2.2.1 (q.1 - 1) (q.2.2.1 (q.1 - 1) - (2 - 1) * 3 ^ (bt (6561 * kd + q.2.2.1 (q.1 - 1)) - 1))) (q.1 - 1 + 1) (q.2.2.1 (q.1 - 1) - (2 - 0) * 3 ^ (bt (6561 * kd + q.2.2.1 (q.1 - 1)) - 1)),
     zz_up (zz_up q.2.2.2.1 (q.1 - 1) (q.2.1 + 1)) (q.1 - 1 + 1) (q.2.1 + 1),
     zz_up q.2.2.2.2.1 q.2.1 (q.2.2.1 (q.1 - 1)),
     (if q.2.2.2.1 (q.1 - 1) = 0 then zz_up q.2.2.2.2.2.1 q.2.1 0 else if zz_up q.2.2.2.2.2.1 q.2.1 0 (q.2.2.2.1 (q.1 - 1) - 1) = 0 then zz_up (zz_up q.2.2.2.2.2.1 q.2.1 0) (q.2.2.2.1 (q.1 - 1) - 1) (q.2.1 + 1) else zz_up q.2.2.2.2.2.1 q.2.1 0),
     (if q.2.2.2.1 (q.1 - 1) = 0 then zz_up q.2.2.2.2.2.2 q.2.1 0 else if zz_up q.2.2.2.2.2.1 q.2.1 0 (q.2.2.2.1 (q.1 - 1) - 1) = 0 then zz_up q.2.2.2.2.2.2 q.2.1 0 else zz_up (zz_up q.2.2.2.2.2.2 q.2.1 0) (q.2.2.2.1 (q.1 - 1) - 1) (q.2.1 + 1)))
  else
    (q.1 - 1, q.2.1 + 1, q.2.2.1, q.2.2.2.1, zz_up q.2.2.2.2.1 q.2.1 (q.2.2.1 (q.1 - 1)),
     (if q.2.2.2.1 (q.1 - 1) = 0 then zz_up q.2.2.2.2.2.1 q.2.1 0 else if zz_up q.2.2.2.2.2.1 q.2.1 0 (q.2.2.2.1 (q.1 - 1) - 1) = 0 then zz_up (zz_up q.2.2.2.2.2.1 q.2.1 0) (q.2.2.2.1 (q.1 - 1) - 1) (q.2.1 + 1) else zz_up q.2.2.2.2.2.1 q.2.1 0),
     (if q.2.2.2.1 (q.1 - 1) = 0 then zz_up q.2.2.2.2.2.2 q.2.1 0 else if zz_up q.2.2.2.2.2.1 q.2.1 0 (q.2.2.2.1 (q.1 - 1) - 1) = 0 then zz_up q.2.2.2.2.2.2 q.2.1 0 else zz_up (zz_up q.2.2.2.2.2.2 q.2.1 0) (q.2.2.2.1 (q.1 - 1) - 1) (q.2.1 + 1)))
def zM_ti (on bt : Nat → Nat) (kd : Nat) : Nat → zMt → zMt
  | 0, q => q
  | i + 1, q => zM_ts on bt kd (zM_ti on bt kd i q)
def zM_tv (on bt : Nat → Nat) (kd : Nat) (q : zMt) : Prop := 0 < q.1 ∧ q.1 ≤ 517 ∧ q.2.1 < 511 ∧ q.2.2.1 (q.1 - 1) < 6561 ∧ q.2.2.2.1 (q.1 - 1) ≤ 511 ∧ (∀ j, q.2.2.2.2.1 j < 6561) ∧ (∀ j, q.2.2.2.2.2.1 j ≤ 511) ∧
  (on (q.2.2.1 (q.1 - 1)) = 0 → ¬ bt (6561 * kd + q.2.2.1 (q.1 - 1)) = 0 ∧ bt (6561 * kd + q.2.2.1 (q.1 - 1)) ≤ 9 ∧ (2 - 0) * 3 ^ (bt (6561 * kd + q.2.2.1 (q.1 - 1)) - 1) ≤ q.2.2.1 (q.1 - 1))
