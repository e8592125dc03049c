/-! digits to the base 3: which are 2, which are 1, how many are 2 -/
def zP_dm (v i : Nat) : Nat → Nat
  | 0 => 0
  | r + 1 => zP_dm v i r + (if zM_dg i r = v then 2 ^ r else 0)
def zP_nf (i : Nat) : Nat → Nat
  | 0 => 0
  | r + 1 => zP_nf i r + (if zM_dg i r = 2 then 1 else 0)
theorem zz_81 {P : Nat → Prop} (h : ∀ a, a < 81 → ∀ b, b < 81 → P (81 * a + b)) : ∀ x, x < 6561 → P x := fun x hx => by
  have e : x = 81 * (x / 81) + x % 81 := by omega
  rw [e]
  exact h _ (by omega) _ (by omega)
theorem zP_step : ∀ x, x < 6561 → (x = 6560 ∨ zT_next (zP_dm 2 x 8, zP_dm 1 x 8) = (zP_dm 2 (x + 1) 8, zP_dm 1 (x + 1) 8)) := zz_81 (by decide +kernel)
theorem zP_bcnf : ∀ x, x < 6561 → zz_bc 14 (zP_dm 2 x 8) = zP_nf x 8 := zz_81 (by decide +kernel)
theorem zP_ntz : ∀ x, x < 6561 → (zP_dm 2 x 8 = 0 ∨ zz_ntz 8 (zP_dm 2 x 8) = zM_ff x) := zz_81 (by decide +kernel)
theorem zP_ow8 : ∀ x, x < 6561 → (¬ zP_dm 2 x 8 = 0 ∨ zM_ow x 0 8 0 = zP_dm 1 x 8) := zz_81 (by decide +kernel)
