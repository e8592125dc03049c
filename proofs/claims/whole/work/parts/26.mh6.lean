/-! down the reference's tree -/
def zM_go (bt se ze no : Nat → Nat) (kd w k : Nat) : Nat := (if w / 2 ^ (bt (6561 * kd + se k) - 1) &&& 1 = 0 then ze k else no k) - 1
def zM_lf (on bt se ze no : Nat → Nat) (kd w : Nat) : Nat → Nat → Nat
  | 0, k => k
  | f + 1, k => if on (se k) = 0 then zM_lf on bt se ze no kd w f (zM_go bt se ze no kd w k) else k
def zM_dp (on bt se ze no : Nat → Nat) (kd w : Nat) : Nat → Nat → Nat
  | 0, _ => 0
  | f + 1, k => if on (se k) = 0 then zM_dp on bt se ze no kd w f (zM_go bt se ze no kd w k) + 1 else 0
/-- nodes that may come, each lower than the one above -/
def zM_U (on bt se ze no : Nat → Nat) (kd : Nat) (U : Nat → Prop) (rk : Nat → Nat) : Prop := ∀ k, U k → k < 511 ∧ (on (se k) = 0 → ¬ bt (6561 * kd + se k) = 0 ∧ bt (6561 * kd + se k) ≤ 9 ∧ ¬ ze k = 0 ∧ ¬ no k = 0 ∧ U (ze k - 1) ∧ U (no k - 1) ∧ rk (ze k - 1) < rk k ∧ rk (no k - 1) < rk k)
theorem zM_go_U {on bt se ze no : Nat → Nat} {kd w k : Nat} {U : Nat → Prop} {rk : Nat → Nat} (h : zM_U on bt se ze no kd U rk) (hk : U k) (h0 : on (se k) = 0) : U (zM_go bt se ze no kd w k) ∧ rk (zM_go bt se ze no kd w k) < rk k := by
  obtain ⟨-, h1⟩ := h k hk
  obtain ⟨-, -, -, -, a, b, c, d⟩ := h1 h0
  unfold zM_go
  split
  · exact ⟨a, c⟩
  · exact ⟨b, d⟩
abbrev zMr : Type := (Nat → Nat) × (Nat → Nat) × (Nat → Nat) × Nat × Nat × Nat
/-- rows' words, flags, answers; hits, by the tree, tests; the answer -/
def zM_find (w f9 an dp : Nat) (q : zMr) : zMr × Nat :=
  if q.1 (w &&& 15) = w + 1 ∧ q.2.1 (w &&& 15) = f9 then ((q.1, q.2.1, q.2.2.1, q.2.2.2.1 + 1, q.2.2.2.2.1, q.2.2.2.2.2), q.2.2.1 (w &&& 15))
  else ((zz_up q.1 (w &&& 15) (w + 1), zz_up q.2.1 (w &&& 15) f9, zz_up q.2.2.1 (w &&& 15) an, q.2.2.2.1, q.2.2.2.2.1 + 1, q.2.2.2.2.2 + dp), an)
theorem zM_lf_s {on bt se ze no : Nat → Nat} {kd w f k : Nat} (hf : 0 < f) (h : on (se k) = 0) : zM_lf on bt se ze no kd w f k = zM_lf on bt se ze no kd w (f - 1) (zM_go bt se ze no kd w k) := by
  cases f with
  | zero => omega
  | succ f => rw [zM_lf, if_pos h]; rfl
theorem zM_lf_e {on bt se ze no : Nat → Nat} {kd w f k : Nat} (h : ¬ on (se k) = 0) : zM_lf on bt se ze no kd w f k = k := by
  cases f with
  | zero => rfl
  | succ f => rw [zM_lf, if_neg h]
theorem zM_dp_s {on bt se ze no : Nat → Nat} {kd w f k : Nat} (hf : 0 < f) (h : on (se k) = 0) : zM_dp on bt se ze no kd w f k = zM_dp on bt se ze no kd w (f - 1) (zM_go bt se ze no kd w k) + 1 := by
  cases f with
  | zero => omega
  | succ f => rw [zM_dp, if_pos h]; rfl
theorem zM_dp_e {on bt se ze no : Nat → Nat} {kd w f k : Nat} (h : ¬ on (se k) = 0) : zM_dp on bt se ze no kd w f k = 0 := by
  cases f with
  | zero => rfl
  | succ f => rw [zM_dp, if_neg h]
