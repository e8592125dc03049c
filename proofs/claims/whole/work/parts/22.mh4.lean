/-! a set worked out -/
theorem zM_dg_side {s b : Nat} (h : zM_dg s b = 2) : (2 - 0) * 3 ^ b ≤ s := by
  unfold zM_dg at h
  have h1 : 2 ≤ s / 3 ^ b := by
    have := Nat.mod_le (s / 3 ^ b) 3
    omega
  have h2 := Nat.div_mul_le_self s (3 ^ b)
  have h3 := Nat.mul_le_mul_right (3 ^ b) h1
  omega
theorem zz_any_ex {P : Nat → Bool} : ∀ (r i : Nat), zz_any P i r = true → ∃ j, i ≤ j ∧ j < i + r ∧ P j = true
  | 0, _, h => by simp [zz_any] at h
  | r + 1, i, h => by
    rw [zz_any] at h
    by_cases hp : P i = true
    · exact ⟨i, Nat.le_refl i, by omega, hp⟩
    · rw [if_neg hp] at h
      obtain ⟨j, h1, h2, h3⟩ := zz_any_ex r (i + 1) h
      exact ⟨j, by omega, by omega, h3⟩
theorem zM_LI {k k' s t : Nat} (hs : s < 6561) (ht : 0 < t) (h : t ≤ s) : 6561 * k + (s - t) ≠ 6561 * k' + s := by omega
theorem zM_ch1_ne {mn : Nat → Nat} {k s b j : Nat} {q : zMc} (hj : j ≠ 6561 * k + s) : (zM_ch1 mn k s b q).2.1 j = q.2.1 j ∧ (zM_ch1 mn k s b q).2.2 j = q.2.2 j := by
  unfold zM_ch1
  split
  · split
    · exact ⟨zz_up_n hj, zz_up_n hj⟩
    · exact ⟨rfl, rfl⟩
  · exact ⟨rfl, rfl⟩
theorem zM_ch_ne {mn : Nat → Nat} {k s j : Nat} (hj : j ≠ 6561 * k + s) : ∀ (r b : Nat) (q : zMc), (zM_ch mn k s b r q).2.1 j = q.2.1 j ∧ (zM_ch mn k s b r q).2.2 j = q.2.2 j
  | 0, _, _ => ⟨rfl, rfl⟩
  | r + 1, b, q => by
    rw [zM_ch]
    have h1 := zM_ch_ne (mn := mn) hj r (b + 1) (zM_ch1 mn k s b q)
    have h2 := zM_ch1_ne (mn := mn) (b := b) (q := q) hj
    exact ⟨h1.1.trans h2.1, h1.2.trans h2.2⟩
abbrev zM_DG (s : Nat) : Nat → Bool := fun b => decide (zM_dg s b = 2)
abbrev zM_ff (s : Nat) : Nat := zz_first (fun b => decide (zM_dg s b = 2)) 0 9 - 1
def zM_w1 (xw s : Nat) (al on mn : Nat → Nat) : (Nat → Nat) × (Nat → Nat) :=
  if zz_any (fun b => decide (zM_dg s b = 2)) 0 xw = true then
    (zz_up on s (if on (s - (2 - 0) * 3 ^ zM_ff s) = on (s - (2 - 1) * 3 ^ zM_ff s) then on (s - (2 - 0) * 3 ^ zM_ff s) else 0), zz_up mn s (mn (s - (2 - 0) * 3 ^ zM_ff s) + mn (s - (2 - 1) * 3 ^ zM_ff s)))
  else (zz_up on s (al (zM_ow s 0 xw 0) + 1), zz_up mn s 1)
abbrev zMb : Type := (Nat → Nat) × (Nat → Nat) × (Nat → Nat)
def zM_w2 (on mn : Nat → Nat) (xw s k : Nat) (q : zMb) : zMb :=
  if on s = 0 then (zz_up (zz_up q.1 (6561 * k + s) 0) (6561 * k + s) (zM_ch mn k s 0 xw (0, zz_up q.2.1 (6561 * k + s) 0, zz_up q.2.2 (6561 * k + s) 0)).1, (zM_ch mn k s 0 xw (0, zz_up q.2.1 (6561 * k + s) 0, zz_up q.2.2 (6561 * k + s) 0)).2.1, (zM_ch mn k s 0 xw (0, zz_up q.2.1 (6561 * k + s) 0, zz_up q.2.2 (6561 * k + s) 0)).2.2)
  else (zz_up q.1 (6561 * k + s) 0, zz_up q.2.1 (6561 * k + s) 0, zz_up q.2.2 (6561 * k + s) 0)
def zM_wk (on mn : Nat → Nat) (xw s : Nat) (q : zMb) : zMb := zM_w2 on mn xw s 2 (zM_w2 on mn xw s 1 (zM_w2 on mn xw s 0 q))
theorem zM_first_at {P : Nat → Bool} : ∀ (r i j : Nat), i ≤ j → j < i + r → P j = true → ∃ k, i ≤ k ∧ k ≤ j ∧ zz_first P i r = k + 1 ∧ P k = true
  | 0, i, j, h1, h2, _ => by omega
  | r + 1, i, j, h1, h2, h3 => by
    by_cases hp : P i = true
    · exact ⟨i, Nat.le_refl i, h1, by rw [zz_first, if_pos hp], hp⟩
    · have hne : i ≠ j := fun q => hp (by rw [q]; exact h3)
      obtain ⟨k, a, b, c, d⟩ := zM_first_at r (i + 1) j (by omega) (by omega) h3
      exact ⟨k, by omega, b, by rw [zz_first, if_neg hp]; exact c, d⟩
theorem zM_ff_at {s b : Nat} (hb : b < 9) (h : zM_dg s b = 2) : zM_ff s ≤ b ∧ zM_dg s (zM_ff s) = 2 := by
  obtain ⟨k, a1, a2, a3, a4⟩ := zM_first_at (P := fun b => decide (zM_dg s b = 2)) 9 0 b (Nat.zero_le _) (by omega) (by simp [h])
  have e : zM_ff s = k := by show zz_first _ 0 9 - 1 = k; rw [a3]; rfl
  rw [e]
  exact ⟨a2, by simpa using a4⟩
