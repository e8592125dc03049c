/-! what the reference's methods do, as functions of numbers -/
def zM_u (b : Nat) : Nat := if b < 9 then 3 ^ b else 0
theorem zM_u_eq {b : Nat} (h : b < 9) : zM_u b = 3 ^ b := if_pos h
def zM_in (v lo hi : Int32) : Bool := !decide (v < lo) && !decide (hi < v)
def zM_dg (s b : Nat) : Nat := s / 3 ^ b % 3
theorem zM_dg_lt (s b : Nat) : zM_dg s b < 3 := Nat.mod_lt _ (by decide)
theorem zz_3pos (b : Nat) : 0 < 3 ^ b := Nat.pow_pos (by decide)
theorem zz_3le' {b : Nat} (h : b < 9) : 3 ^ b ≤ 6561 := Nat.pow_le_pow_right (n := 3) (by decide) (show b ≤ 8 by omega)
/-- the bits of a set's only word, from b on, of r -/
def zM_ow (s : Nat) : Nat → Nat → Nat → Nat
  | _, 0, w => w
  | b, r + 1, w => zM_ow s (b + 1) r (w ||| zM_dg s b * 2 ^ b)
theorem zM_ow_s {s b n w : Nat} (h : b < n) : zM_ow s b (n - b) w = zM_ow s (b + 1) (n - (b + 1)) (w ||| zM_dg s b * 2 ^ b) := by
  rw [show n - b = (n - (b + 1)) + 1 by omega, zM_ow]
theorem zM_ow_e {s b n w : Nat} (h : n ≤ b) : zM_ow s b (n - b) w = w := by rw [Nat.sub_eq_zero_of_le h]; rfl
/-- a word's list: encodings e .. , r of them, into li at 14 * w + n -/
def zM_ml (mk vl fl : Nat → Nat) (w : Nat) : Nat → Nat → (Nat → Nat) × Nat → (Nat → Nat) × Nat
  | _, 0, q => q
  | e, r + 1, q => if zE_fit mk vl w e = true then (if fl e = 0 then (zz_up q.1 (14 * w + q.2) e, q.2 + 1) else zM_ml mk vl fl w (e + 1) r (zz_up q.1 (14 * w + q.2) e, q.2 + 1)) else zM_ml mk vl fl w (e + 1) r q
theorem zM_ml_e {mk vl fl : Nat → Nat} {w e n : Nat} {q : (Nat → Nat) × Nat} (h : n ≤ e) : zM_ml mk vl fl w e (n - e) q = q := by rw [Nat.sub_eq_zero_of_le h]; rfl
theorem zM_ml_no {mk vl fl : Nat → Nat} {w e n : Nat} {q : (Nat → Nat) × Nat} (h : e < n) (hf : zE_fit mk vl w e = false) : zM_ml mk vl fl w e (n - e) q = zM_ml mk vl fl w (e + 1) (n - (e + 1)) q := by
  rw [show n - e = (n - (e + 1)) + 1 by omega, zM_ml, if_neg (by rw [hf]; decide)]
theorem zM_ml_on {mk vl fl : Nat → Nat} {w e n : Nat} {q : (Nat → Nat) × Nat} (h : e < n) (hf : zE_fit mk vl w e = true) (hl : ¬ fl e = 0) : zM_ml mk vl fl w e (n - e) q = zM_ml mk vl fl w (e + 1) (n - (e + 1)) (zz_up q.1 (14 * w + q.2) e, q.2 + 1) := by
  rw [show n - e = (n - (e + 1)) + 1 by omega, zM_ml, if_pos hf, if_neg hl]
theorem zM_ml_st {mk vl fl : Nat → Nat} {w e n : Nat} {q : (Nat → Nat) × Nat} (h : e < n) (hf : zE_fit mk vl w e = true) (hl : fl e = 0) : zM_ml mk vl fl w e (n - e) q = (zz_up q.1 (14 * w + q.2) e, q.2 + 1) := by
  rw [show n - e = (n - (e + 1)) + 1 by omega, zM_ml, if_pos hf, if_pos hl]
/-- is everything of k .. the same in both lists -/
def zM_sl (li : Nat → Nat) (v w : Nat) : Nat → Nat → Bool
  | _, 0 => true
  | k, r + 1 => if li (14 * v + k) = li (14 * w + k) then zM_sl li v w (k + 1) r else false
def zM_same (li ls : Nat → Nat) (v w : Nat) : Bool := if ls v = ls w then zM_sl li v w 0 (ls v) else false
theorem zz_o_neg {k : Nat} (h : k ≤ 2 ^ 31) : (zz_o k < 0) = (k = 0) := by
  cases k with
  | zero => simp [zz_o]
  | succ k => exact propext ⟨fun q => absurd q (nI_pos (by omega)), fun q => by omega⟩
theorem zz_o_nn {k : Nat} (h : k ≤ 2 ^ 31) : (0 ≤ zz_o k) = (¬ k = 0) := by
  cases k with
  | zero => simp [zz_o]
  | succ k => exact propext ⟨fun _ => by omega, fun _ => nI_pos' (by omega)⟩
