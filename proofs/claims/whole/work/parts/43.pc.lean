theorem zP_at : ∀ i, i < 6561 → zT_at i = (zP_dm 2 i 8, zP_dm 1 i 8)
  | 0, _ => by decide
  | i + 1, h => by
    rw [zT_at, zP_at i (by omega)]
    rcases zP_step i (by omega) with q | q
    · omega
    · exact q
theorem zP_dm_lt {v i : Nat} : ∀ r, zP_dm v i r < 2 ^ r
  | 0 => by rw [zP_dm]; decide
  | r + 1 => by
    have := zP_dm_lt (v := v) (i := i) r
    rw [zP_dm, Nat.pow_succ]
    split <;> omega
theorem zP_dm_bit {v i : Nat} : ∀ (r b : Nat), (zP_dm v i r / 2 ^ b &&& 1 = 1) ↔ (b < r ∧ zM_dg i b = v)
  | 0, b => by simp [zP_dm]
  | r + 1, b => by
    have lt := zP_dm_lt (v := v) (i := i) r
    have ih := zP_dm_bit (v := v) (i := i) r b
    rw [zP_tb] at ih ⊢
    rw [zP_dm]
    by_cases h : zM_dg i r = v
    · rw [if_pos h, Nat.add_comm]
      by_cases q : b < r
      · rw [Nat.testBit_two_pow_add_gt q, ih]
        exact ⟨fun z => ⟨by omega, z.2⟩, fun z => ⟨q, z.2⟩⟩
      · by_cases q2 : b = r
        · subst q2
          rw [Nat.testBit_two_pow_add_eq, Nat.testBit_lt_two_pow lt]
          exact ⟨fun _ => ⟨by omega, h⟩, fun _ => rfl⟩
        · have : 2 ^ r + zP_dm v i r < 2 ^ b := by
            have a : 2 ^ (r + 1) ≤ 2 ^ b := Nat.pow_le_pow_right (by decide) (by omega)
            rw [Nat.pow_succ] at a
            omega
          rw [Nat.testBit_lt_two_pow this]
          exact ⟨fun z => absurd z (by decide), fun z => by omega⟩
    · rw [if_neg h, Nat.add_zero, ih]
      constructor
      · rintro ⟨a, c⟩; exact ⟨by omega, c⟩
      · rintro ⟨a, c⟩
        by_cases q : b = r
        · rw [q] at c; exact absurd c h
        · exact ⟨by omega, c⟩
theorem zP_dg_0 {i b : Nat} (h : i < 3 ^ b) : zM_dg i b = 0 := by
  unfold zM_dg
  rw [Nat.div_eq_of_lt h]
theorem zP_dg_W {i W b : Nat} (h : i < 3 ^ W) (hb : W ≤ b) : zM_dg i b = 0 := zP_dg_0 (Nat.lt_of_lt_of_le h (Nat.pow_le_pow_right (by decide) hb))
theorem zP_dm_W {v i W : Nat} (hv : 0 < v) (h : i < 3 ^ W) : ∀ r, W ≤ r → zP_dm v i r = zP_dm v i W := by
  intro r
  induction r with
  | zero => intro hr; rw [show W = 0 by omega]
  | succ r ih =>
    intro hr
    by_cases q : W = r + 1
    · rw [q]
    · rw [zP_dm, if_neg (by rw [zP_dg_W h (show W ≤ r by omega)]; omega), Nat.add_zero, ih (by omega)]
theorem zP_ow_W {i W : Nat} (h : i < 3 ^ W) : ∀ (r b w : Nat), W ≤ b → zM_ow i b r w = w := by
  intro r
  induction r with
  | zero => intro b w _; rfl
  | succ r ih =>
    intro b w hb
    rw [zM_ow, zP_dg_W h hb, Nat.zero_mul, Nat.or_zero, ih (b + 1) w (by omega)]
theorem zP_ow_app {i : Nat} : ∀ (r b s w : Nat), zM_ow i b (r + s) w = zM_ow i (b + r) s (zM_ow i b r w)
  | 0, b, s, w => by rw [Nat.zero_add]; rfl
  | r + 1, b, s, w => by
    rw [show r + 1 + s = (r + s) + 1 by omega, zM_ow, zP_ow_app r (b + 1) s, show b + 1 + r = b + (r + 1) by omega]
    rfl
theorem zP_ow_all {i W : Nat} (hW : W ≤ 8) (h : i < 3 ^ W) : zM_ow i 0 W 0 = zM_ow i 0 8 0 := by
  have e := zP_ow_app (i := i) W 0 (8 - W) 0
  rw [show W + (8 - W) = 8 by omega] at e
  rw [e, zP_ow_W h (8 - W) (0 + W) _ (by omega)]
theorem zP_3W {W : Nat} (hW : W ≤ 8) : 3 ^ W ≤ 6561 := Nat.pow_le_pow_right (n := 3) (by decide) hW
theorem zP_any {i W : Nat} : (zz_any (fun b => decide (zM_dg i b = 2)) 0 W = true) ↔ ∃ b, b < W ∧ zM_dg i b = 2 := by
  constructor
  · intro h
    obtain ⟨j, -, h2, h3⟩ := zz_any_ex W 0 h
    exact ⟨j, by omega, by simpa using h3⟩
  · have key : ∀ (r k b : Nat), k ≤ b → b < k + r → zM_dg i b = 2 → zz_any (fun b => decide (zM_dg i b = 2)) k r = true := by
      intro r
      induction r with
      | zero => intro k b h1 h2; omega
      | succ r ih =>
        intro k b h1 h2 h3
        rw [zz_any]
        by_cases q : k = b
        · rw [if_pos (by rw [q]; simp [h3])]
        · split
          · rfl
          · exact ih (k + 1) b (by omega) (by omega) h3
    rintro ⟨b, h1, h2⟩
    exact key W 0 b (Nat.zero_le b) (by omega) h2
theorem zP_fr_any {i W : Nat} (hW : W ≤ 8) (h : i < 3 ^ W) : (zP_dm 2 i 8 = 0) ↔ ¬ ∃ b, b < W ∧ zM_dg i b = 2 := by
  constructor
  · rintro h0 ⟨b, h1, h2⟩
    have := (zP_dm_bit (v := 2) (i := i) 8 b).mpr ⟨by omega, h2⟩
    rw [h0] at this
    simp at this
  · intro h0
    apply Nat.eq_of_testBit_eq
    intro b
    rw [Nat.zero_testBit]
    cases q : (zP_dm 2 i 8).testBit b with
    | false => rfl
    | true =>
      rw [← zP_tb, zP_dm_bit] at q
      apply absurd _ h0
      refine ⟨b, ?_, q.2⟩
      refine Decidable.byContradiction fun z => ?_
      have := zP_dg_W h (show W ≤ b by omega)
      omega
theorem zP_okat {W i : Nat} (hW : W ≤ 8) (h : i < 3 ^ W) : zT_okat W (2 ^ W) i := by
  have hi : i < 6561 := Nat.lt_of_lt_of_le h (zP_3W hW)
  unfold zT_okat
  rw [zP_at i hi]
  refine ⟨zP_dm_lt 8, ?_, fun b hb hf => zM_dg_side ((zP_dm_bit 8 b).mp hf).2, fun h0 => ?_⟩
  · show zP_dm 1 i 8 < 2 ^ W
    rw [zP_dm_W (by decide) h 8 hW]
    exact zP_dm_lt W
  · have h0 : 0 < zP_dm 2 i 8 := h0
    show (2 - 0) * 3 ^ zz_ntz 8 (zP_dm 2 i 8) ≤ i
    rcases zP_ntz i hi with q | q
    · omega
    · rw [q]
      have h1 : ∃ b, b < W ∧ zM_dg i b = 2 := Decidable.byContradiction fun z => by
        have := (zP_fr_any hW h).mpr z
        omega
      obtain ⟨b, h1, h2⟩ := h1
      exact zM_dg_side (zM_ff_at (by omega) h2).2
theorem zP_dg_hi {s b c k : Nat} (hk : k ≤ 2) (h : zM_dg s b = 2) (hc : b < c) : zM_dg (s - k * 3 ^ b) c = zM_dg s c := by
  obtain ⟨d, rfl⟩ : ∃ d, c = b + 1 + d := ⟨c - (b + 1), by omega⟩
  have hs := zM_dg_side h
  unfold zM_dg at *
  have e : ∀ x : Nat, x / 3 ^ (b + 1 + d) = x / 3 ^ b / 3 / 3 ^ d := by
    intro x
    rw [Nat.div_div_eq_div_mul, Nat.div_div_eq_div_mul, Nat.pow_add, Nat.pow_succ, Nat.mul_assoc]
  have hks : 3 ^ b * k ≤ s := by
    have := Nat.mul_le_mul_left (3 ^ b) hk
    rw [Nat.mul_comm (2 - 0)] at hs
    omega
  rw [e, e, Nat.mul_comm k, Nat.sub_mul_div _ _ _ ]
  generalize s / 3 ^ b = y at h ⊢
  rw [show (y - k) / 3 = y / 3 by omega]
theorem zP_dg_lo {s b c k : Nat} (hc : c < b) (hks : k * 3 ^ b ≤ s) : zM_dg (s - k * 3 ^ b) c = zM_dg s c := by
  obtain ⟨d, rfl⟩ : ∃ d, b = c + 1 + d := ⟨b - (c + 1), by omega⟩
  unfold zM_dg
  have e : k * 3 ^ (c + 1 + d) = 3 ^ c * (3 * (k * 3 ^ d)) := by
    rw [Nat.pow_add, Nat.pow_succ]
    simp only [Nat.mul_comm, Nat.mul_left_comm, Nat.mul_assoc]
  rw [e] at hks ⊢
  have h2 : 3 * (k * 3 ^ d) ≤ s / 3 ^ c := (Nat.le_div_iff_mul_le (zz_3pos c)).mpr (by rw [Nat.mul_comm]; exact hks)
  rw [Nat.sub_mul_div _ _ _ ]
  omega
theorem zP_dg_eq {s b k : Nat} (hk : k ≤ 2) (h : zM_dg s b = 2) : zM_dg (s - k * 3 ^ b) b = 2 - k := by
  have hs := zM_dg_side h
  unfold zM_dg at *
  have hks : 3 ^ b * k ≤ s := by
    have := Nat.mul_le_mul_left (3 ^ b) hk
    rw [Nat.mul_comm (2 - 0)] at hs
    omega
  rw [Nat.mul_comm k, Nat.sub_mul_div _ _ _ ]
  generalize s / 3 ^ b = y at h ⊢
  omega
theorem zP_dg_ne {s b c k : Nat} (hk : k ≤ 2) (h : zM_dg s b = 2) (hc : c ≠ b) : zM_dg (s - k * 3 ^ b) c = zM_dg s c := by
  by_cases q : c < b
  · apply zP_dg_lo q
    have := zM_dg_side h
    have := Nat.mul_le_mul_right (3 ^ b) hk
    omega
  · exact zP_dg_hi hk h (by omega)
theorem zP_nf_side {s b k : Nat} (hk : k ≤ 2) (h1 : 1 ≤ k) (h : zM_dg s b = 2) : ∀ r, zP_nf s r = zP_nf (s - k * 3 ^ b) r + (if b < r then 1 else 0)
  | 0 => rfl
  | r + 1 => by
    rw [zP_nf, zP_nf, zP_nf_side hk h1 h r]
    by_cases q : r = b
    · subst q
      rw [if_pos h, if_neg (Nat.lt_irrefl r), zP_dg_eq hk h, if_neg (by omega), if_pos (by omega)]
    · rw [zP_dg_ne hk h q]
      by_cases q2 : b < r
      · rw [if_pos q2, if_pos (show b < r + 1 by omega)]; omega
      · rw [if_neg q2, if_neg (show ¬ b < r + 1 by omega)]; omega
theorem zP_nf_s {s b k : Nat} (hk : k ≤ 2) (h1 : 1 ≤ k) (hb : b < 8) (h : zM_dg s b = 2) : zP_nf s 8 = zP_nf (s - k * 3 ^ b) 8 + 1 := by
  rw [zP_nf_side hk h1 h 8, if_pos hb]
theorem zP_nf_le {s : Nat} : ∀ r, zP_nf s r ≤ r
  | 0 => Nat.le_refl 0
  | r + 1 => by
    have := zP_nf_le (s := s) r
    rw [zP_nf]
    split <;> omega
theorem zP_nf_0 {s : Nat} (h : ∀ b, b < 8 → ¬ zM_dg s b = 2) : ∀ r, r ≤ 8 → zP_nf s r = 0
  | 0, _ => rfl
  | r + 1, hr => by rw [zP_nf, zP_nf_0 h r (by omega), if_neg (h r (by omega))]
