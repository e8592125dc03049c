/-! more of the reference -/
theorem zz_nb (b : Bool) : narrow .boolean (.int (nI (zz_b b))) = .int (nI (zz_b b)) := by cases b <;> rfl
def zM_one (mk vl fl : Nat → Nat) (n w : Nat) (q : (Nat → Nat) × (Nat → Nat) × (Nat → Nat)) : (Nat → Nat) × (Nat → Nat) × (Nat → Nat) :=
  ((zM_ml mk vl fl w 0 n (q.1, 0)).1, zz_up q.2.1 w (zM_ml mk vl fl w 0 n (q.1, 0)).2,
   zz_up q.2.2 w (zz_first (fun v => zM_same (zM_ml mk vl fl w 0 n (q.1, 0)).1 (zz_up q.2.1 w (zM_ml mk vl fl w 0 n (q.1, 0)).2) v w) 0 (w + 1) - 1))
/-- all lists: words i .., r of them -/
def zM_lists (mk vl fl : Nat → Nat) (n : Nat) : Nat → Nat → (Nat → Nat) × (Nat → Nat) × (Nat → Nat) → (Nat → Nat) × (Nat → Nat) × (Nat → Nat)
  | _, 0, q => q
  | w, r + 1, q => zM_lists mk vl fl n (w + 1) r (zM_one mk vl fl n w q)
theorem zM_lists_s {mk vl fl : Nat → Nat} {n w m : Nat} {q : (Nat → Nat) × (Nat → Nat) × (Nat → Nat)} (h : w < m) : zM_lists mk vl fl n w (m - w) q = zM_lists mk vl fl n (w + 1) (m - (w + 1)) (zM_one mk vl fl n w q) := by
  rw [show m - w = (m - (w + 1)) + 1 by omega, zM_lists]
theorem zM_lists_e {mk vl fl : Nat → Nat} {n w m : Nat} {q : (Nat → Nat) × (Nat → Nat) × (Nat → Nat)} (h : m ≤ w) : zM_lists mk vl fl n w (m - w) q = q := by rw [Nat.sub_eq_zero_of_le h]; rfl
theorem zM_ml_b {mk vl fl : Nat → Nat} {w : Nat} : ∀ (r e : Nat) (q : (Nat → Nat) × Nat), (∀ j, q.1 j < 14) → q.2 ≤ e → e + r ≤ 14 → (∀ j, (zM_ml mk vl fl w e r q).1 j < 14) ∧ (zM_ml mk vl fl w e r q).2 ≤ 14
  | 0, e, q, h1, h2, h3 => ⟨h1, by show q.2 ≤ 14; omega⟩
  | r + 1, e, q, h1, h2, h3 => by
    rw [zM_ml]
    split
    · split
      · exact ⟨zz_up_lt h1 (by omega), by show q.2 + 1 ≤ 14; omega⟩
      · exact zM_ml_b r (e + 1) _ (zz_up_lt h1 (by omega)) (by show q.2 + 1 ≤ e + 1; omega) (by omega)
    · exact zM_ml_b r (e + 1) q h1 (by omega) (by omega)
theorem zM_sl_refl (li : Nat → Nat) (w : Nat) : ∀ (r k : Nat), zM_sl li w w k r = true
  | 0, _ => rfl
  | r + 1, k => by rw [zM_sl, if_pos rfl]; exact zM_sl_refl li w r (k + 1)
theorem zM_same_refl (li ls : Nat → Nat) (w : Nat) : zM_same li ls w w = true := by unfold zM_same; rw [if_pos rfl]; exact zM_sl_refl li w _ _
def zM_right (xw : Nat) (x y : Int32) : Bool := zM_in x (nI 0) (nI (1 * 2 ^ xw - 1)) && zM_in y (nI 0) (nI 255)
/-- the first of a list that holds, from place k on, of r: 0 none -/
def zM_af (fl li : Nat → Nat) (w f : Nat) : Nat → Nat → Nat
  | _, 0 => 0
  | k, r + 1 => if zE_open fl f (li (14 * w + k)) = true then li (14 * w + k) + 1 else zM_af fl li w f (k + 1) r
theorem zM_in_nat {x : Int32} {m : Nat} (hm : m < 2 ^ 31) (h : zM_in x (nI 0) (nI m) = true) : x = nI x.toNatClampNeg ∧ x.toNatClampNeg ≤ m := by
  simp only [zM_in, Bool.and_eq_true, Bool.not_eq_true', decide_eq_false_iff_not] at h
  obtain ⟨j, hj, e⟩ := nI_of h.1
  rw [e, nI_clamp hj]
  refine ⟨rfl, ?_⟩
  have h2 := h.2
  rw [e, zz_lt hm hj] at h2
  omega
theorem zM_right_w {xw : Nat} {x y : Int32} (hw : xw ≤ 8) (h : zM_right xw x y = true) : x = nI x.toNatClampNeg ∧ x.toNatClampNeg < 1 * 2 ^ xw := by
  have p2 := zz_2le (a := 1) hw
  have p1 : 1 ≤ 1 * 2 ^ xw := by have := Nat.two_pow_pos xw; omega
  simp only [zM_right, Bool.and_eq_true] at h
  obtain ⟨e, h1⟩ := zM_in_nat (by omega) h.1
  exact ⟨e, by omega⟩
theorem zM_right_f {xw : Nat} {x y : Int32} (h : zM_right xw x y = true) : y = nI y.toNatClampNeg ∧ y.toNatClampNeg < 256 := by
  simp only [zM_right, Bool.and_eq_true] at h
  obtain ⟨e, h1⟩ := zM_in_nat (by decide) h.2
  exact ⟨e, by omega⟩
def zM_isIn (mk vl : Nat → Nat) (e f : Nat) : Bool := decide (mk f &&& (mk e ^^^ 4294967295) = 0) && decide (vl e &&& mk f = vl f)
def zM_x (mk vl : Nat → Nat) (e f : Nat) : Bool := decide ((vl e ^^^ vl f) &&& mk e &&& mk f = 0) && (!zM_isIn mk vl e f && !zM_isIn mk vl f e)
/-- any among i .. of r, with what was found before -/
def zM_or (P : Nat → Bool) : Nat → Nat → Bool → Bool
  | _, 0, a => a
  | i, r + 1, a => zM_or P (i + 1) r (a || P i)
def zM_cross (mk vl : Nat → Nat) (n : Nat) : Nat → Nat → Bool → Bool
  | _, 0, a => a
  | e, r + 1, a => zM_cross mk vl n (e + 1) r (zM_or (zM_x mk vl e) 0 e a)
