/-! the same lists: as sets of bits, and as rows -/
def zP_bl (x : Nat) : Nat → Nat → List Nat
  | _, 0 => []
  | i, r + 1 => if x / 2 ^ i &&& 1 = 1 then i :: zP_bl x (i + 1) r else zP_bl x (i + 1) r
def zP_oc : Option Nat → Nat
  | none => 0
  | some k => k + 1
theorem zP_mem {x : Nat} : ∀ (r i b p : Nat), zE_mem x (b + p) i b r = zP_oc ((zP_bl x i r)[p]?)
  | 0, i, b, p => by simp [zE_mem, zP_bl, zP_oc]
  | r + 1, i, b, p => by
    rw [zE_mem, zP_bl]
    by_cases h : x / 2 ^ i &&& 1 = 1
    · rw [if_pos h, if_pos h]
      cases p with
      | zero => simp [zP_oc]
      | succ p =>
        rw [if_neg (by omega), show b + (p + 1) = b + 1 + p by omega, zP_mem r (i + 1) (b + 1) p]
        simp
    · rw [if_neg h, if_neg h]
      exact zP_mem r (i + 1) b p
theorem zP_first {x : Nat} {P : Nat → Bool} : ∀ (r i : Nat), zz_first (fun k => decide (x / 2 ^ k &&& 1 = 1) && P k) i r = zP_oc ((zP_bl x i r).find? P)
  | 0, i => rfl
  | r + 1, i => by
    rw [zz_first, zP_bl]
    by_cases h : x / 2 ^ i &&& 1 = 1
    · rw [if_pos h, List.find?_cons]
      cases hp : P i with
      | true => simp [h, zP_oc]
      | false =>
        rw [if_neg (by simp)]
        exact zP_first r (i + 1)
    · rw [if_neg h, if_neg (by rw [decide_eq_false h]; simp)]
      exact zP_first r (i + 1)
theorem zP_len {x : Nat} : ∀ (r i : Nat), (zP_bl x i r).length = zz_bc r (x / 2 ^ i)
  | 0, i => rfl
  | r + 1, i => by
    rw [zP_bl, zz_bc, Nat.div_div_eq_div_mul, ← Nat.pow_succ, ← zP_len r (i + 1), ← Nat.and_one_is_mod]
    by_cases h : x / 2 ^ i &&& 1 = 1
    · rw [if_pos h, h, List.length_cons]; omega
    · have h2 : x / 2 ^ i &&& 1 < 2 := Nat.lt_of_le_of_lt Nat.and_le_right (by decide)
      rw [if_neg h, show x / 2 ^ i &&& 1 = 0 by omega]; omega
def zP_sum : List Nat → Nat
  | [] => 0
  | a :: t => 2 ^ a + zP_sum t
theorem zP_sum_bl {x : Nat} : ∀ (r i : Nat), zP_sum (zP_bl x i r) = (x / 2 ^ i % 2 ^ r) * 2 ^ i
  | 0, i => by simp [zP_bl, zP_sum, Nat.mod_one]
  | r + 1, i => by
    have e : x / 2 ^ i % 2 ^ (r + 1) = x / 2 ^ i % 2 + 2 * (x / 2 ^ (i + 1) % 2 ^ r) := by
      rw [Nat.pow_succ 2 r, Nat.mul_comm (2 ^ r) 2, Nat.mod_mul, Nat.div_div_eq_div_mul, ← Nat.pow_succ]
    have ih := zP_sum_bl (x := x) r (i + 1)
    rw [zP_bl, e, Nat.add_mul, Nat.mul_comm 2, Nat.mul_assoc, Nat.mul_comm 2, ← Nat.pow_succ, ← ih, ← Nat.and_one_is_mod]
    by_cases h : x / 2 ^ i &&& 1 = 1
    · rw [if_pos h, h, zP_sum]; omega
    · have h2 : x / 2 ^ i &&& 1 < 2 := Nat.lt_of_le_of_lt Nat.and_le_right (by decide)
      rw [if_neg h, show x / 2 ^ i &&& 1 = 0 by omega]; omega
theorem zP_bl_inj {x y : Nat} (hx : x < 16384) (hy : y < 16384) (h : zP_bl x 0 14 = zP_bl y 0 14) : x = y := by
  have a := zP_sum_bl (x := x) 14 0
  have b := zP_sum_bl (x := y) 14 0
  rw [h] at a
  have e : x / 2 ^ 0 % 2 ^ 14 * 2 ^ 0 = y / 2 ^ 0 % 2 ^ 14 * 2 ^ 0 := a.symm.trans b
  simp at e
  omega
theorem zP_len14 {x : Nat} : (zP_bl x 0 14).length = zz_bc 14 x := by
  have := zP_len (x := x) 14 0
  simpa using this
theorem zP_bl_nil {x : Nat} : ∀ (r i : Nat), (∀ k, i ≤ k → k < i + r → ¬ x / 2 ^ k &&& 1 = 1) → zP_bl x i r = []
  | 0, _, _ => rfl
  | r + 1, i, h => by
    rw [zP_bl, if_neg (h i (Nat.le_refl i) (by omega))]
    exact zP_bl_nil r (i + 1) (fun k h1 h2 => h k (by omega) (by omega))
theorem zP_bl_app {x : Nat} : ∀ (r i s : Nat), zP_bl x i (r + s) = zP_bl x i r ++ zP_bl x (i + r) s
  | 0, i, s => by simp [zP_bl]
  | r + 1, i, s => by
    rw [show r + 1 + s = (r + s) + 1 by omega, zP_bl, zP_bl, zP_bl_app r (i + 1) s, show i + 1 + r = i + (r + 1) by omega]
    split <;> simp
/-- a row of the reference's lists -/
def zP_row (li : Nat → Nat) (w : Nat) : Nat → Nat → List Nat
  | _, 0 => []
  | k, r + 1 => li (14 * w + k) :: zP_row li w (k + 1) r
theorem zP_row_len {li : Nat → Nat} {w : Nat} : ∀ (r k : Nat), (zP_row li w k r).length = r
  | 0, _ => rfl
  | r + 1, k => by rw [zP_row, List.length_cons, zP_row_len r (k + 1)]
theorem zP_row_at {li : Nat → Nat} {w : Nat} : ∀ (r k i : Nat), i < r → (zP_row li w k r)[i]? = some (li (14 * w + k + i))
  | 0, _, i, h => by omega
  | r + 1, k, i, h => by
    rw [zP_row]
    cases i with
    | zero => simp
    | succ i =>
      rw [List.getElem?_cons_succ, zP_row_at r (k + 1) i (by omega)]
      congr 2
      omega
theorem zP_row_congr {li li' : Nat → Nat} {w : Nat} : ∀ (r k : Nat), (∀ j, k ≤ j → j < k + r → li (14 * w + j) = li' (14 * w + j)) → zP_row li w k r = zP_row li' w k r
  | 0, _, _ => rfl
  | r + 1, k, h => by
    rw [zP_row, zP_row, h k (Nat.le_refl k) (by omega), zP_row_congr r (k + 1) (fun j h1 h2 => h j (by omega) (by omega))]
theorem zP_af {fl li : Nat → Nat} {w f : Nat} : ∀ (r k : Nat), zM_af fl li w f k r = zP_oc ((zP_row li w k r).find? (zE_open fl f))
  | 0, _ => rfl
  | r + 1, k => by
    rw [zM_af, zP_row, List.find?_cons]
    cases h : zE_open fl f (li (14 * w + k)) with
    | true => simp [zP_oc]
    | false =>
      rw [if_neg (by decide)]
      exact zP_af r (k + 1)
theorem zP_sl {li : Nat → Nat} {v w : Nat} : ∀ (r k : Nat), (zM_sl li v w k r = true) ↔ zP_row li v k r = zP_row li w k r
  | 0, _ => by simp [zM_sl, zP_row]
  | r + 1, k => by
    rw [zM_sl, zP_row, zP_row]
    by_cases h : li (14 * v + k) = li (14 * w + k)
    · rw [if_pos h, zP_sl r (k + 1), h]
      simp
    · rw [if_neg h]
      simp [h]
theorem zP_same {li ls : Nat → Nat} {v w : Nat} : (zM_same li ls v w = true) ↔ zP_row li v 0 (ls v) = zP_row li w 0 (ls w) := by
  unfold zM_same
  by_cases h : ls v = ls w
  · rw [if_pos h, zP_sl, h]
  · rw [if_neg h]
    constructor
    · intro q; exact absurd q (by decide)
    · intro q
      have := congrArg List.length q
      rw [zP_row_len, zP_row_len] at this
      exact absurd this h
def zP_ml (mk vl fl : Nat → Nat) (w : Nat) : Nat → Nat → List Nat
  | _, 0 => []
  | e, r + 1 => if zE_fit mk vl w e = true then (if fl e = 0 then [e] else e :: zP_ml mk vl fl w (e + 1) r) else zP_ml mk vl fl w (e + 1) r
theorem zP_ml_len {mk vl fl : Nat → Nat} {w : Nat} : ∀ (r e : Nat), (zP_ml mk vl fl w e r).length ≤ r
  | 0, _ => Nat.le_refl 0
  | r + 1, e => by
    have := zP_ml_len (mk := mk) (vl := vl) (fl := fl) (w := w) r (e + 1)
    rw [zP_ml]
    split
    · split
      · simp
      · rw [List.length_cons]; omega
    · omega
theorem zP_ml_made {mk vl fl : Nat → Nat} {w : Nat} : ∀ (r e c : Nat) (li : Nat → Nat),
    (zM_ml mk vl fl w e r (li, c)).2 = c + (zP_ml mk vl fl w e r).length ∧
    zP_row (zM_ml mk vl fl w e r (li, c)).1 w c (zP_ml mk vl fl w e r).length = zP_ml mk vl fl w e r ∧
    ∀ j, j < 14 * w + c ∨ 14 * w + c + r ≤ j → (zM_ml mk vl fl w e r (li, c)).1 j = li j
  | 0, e, c, li => ⟨rfl, rfl, fun _ _ => rfl⟩
  | r + 1, e, c, li => by
    rw [zM_ml, zP_ml]
    by_cases hf : zE_fit mk vl w e = true
    · rw [if_pos hf, if_pos hf]
      by_cases h0 : fl e = 0
      · rw [if_pos h0, if_pos h0]
        refine ⟨rfl, ?_, fun j hj => zz_up_n (by omega)⟩
        show zP_row (zz_up li (14 * w + c) e) w c 1 = [e]
        rw [zP_row, zP_row, zz_up_s]
      · rw [if_neg h0, if_neg h0]
        obtain ⟨h1, h2, h3⟩ := zP_ml_made (mk := mk) (vl := vl) (fl := fl) (w := w) r (e + 1) (c + 1) (zz_up li (14 * w + c) e)
        refine ⟨?_, ?_, ?_⟩
        · rw [h1, List.length_cons]; omega
        · rw [List.length_cons, zP_row, h2, h3 _ (by omega), zz_up_s]
        · intro j hj
          rw [h3 j (by omega), zz_up_n (by omega)]
    · rw [if_neg hf, if_neg hf]
      obtain ⟨h1, h2, h3⟩ := zP_ml_made (mk := mk) (vl := vl) (fl := fl) (w := w) r (e + 1) c li
      exact ⟨h1, h2, fun j hj => h3 j (by omega)⟩
theorem zP_ml_bl {mk vl fl : Nat → Nat} {w x : Nat} : ∀ (r e : Nat), (∀ k, e ≤ k → k < e + r → (x / 2 ^ k &&& 1 = 1 ↔ (zE_fit mk vl w k = true ∧ ∀ j, e ≤ j → j < k → zE_fit mk vl w j = true → ¬ fl j = 0))) → zP_ml mk vl fl w e r = zP_bl x e r
  | 0, _, _ => rfl
  | r + 1, e, h => by
    rw [zP_ml, zP_bl]
    have he := h e (Nat.le_refl e) (by omega)
    by_cases hf : zE_fit mk vl w e = true
    · rw [if_pos hf, if_pos (he.mpr ⟨hf, fun j h1 h2 => by omega⟩)]
      by_cases h0 : fl e = 0
      · rw [if_pos h0, zP_bl_nil r (e + 1) (fun k h1 h2 q => ((h k (by omega) (by omega)).mp q).2 e (Nat.le_refl e) (by omega) hf h0)]
      · rw [if_neg h0, zP_ml_bl r (e + 1) (fun k h1 h2 => ⟨fun q => ⟨((h k (by omega) (by omega)).mp q).1, fun j a b => ((h k (by omega) (by omega)).mp q).2 j (by omega) b⟩, fun q => (h k (by omega) (by omega)).mpr ⟨q.1, fun j a b c => by
          by_cases hj : j = e
          · rw [hj]; exact h0
          · exact q.2 j (by omega) b c⟩⟩)]
    · rw [if_neg hf, if_neg (fun q => hf (he.mp q).1)]
      exact zP_ml_bl r (e + 1) (fun k h1 h2 => ⟨fun q => ⟨((h k (by omega) (by omega)).mp q).1, fun j a b => ((h k (by omega) (by omega)).mp q).2 j (by omega) b⟩, fun q => (h k (by omega) (by omega)).mpr ⟨q.1, fun j a b c => by
          by_cases hj : j = e
          · rw [hj] at c; exact absurd c hf
          · exact q.2 j (by omega) b c⟩⟩)
theorem zP_tried {mk vl cd : Nat → Nat} {w f : Nat} : ∀ (r e : Nat), zz_first (fun k => zE_fit mk vl w k && zE_open cd f k) e r = zP_oc ((zP_ml mk vl cd w e r).find? (zE_open cd f))
  | 0, _ => rfl
  | r + 1, e => by
    rw [zz_first, zP_ml]
    by_cases hf : zE_fit mk vl w e = true
    · rw [if_pos hf]
      by_cases h0 : cd e = 0
      · have ho : zE_open cd f e = true := by simp [zE_open, h0]
        rw [if_pos h0, if_pos (by simp [hf, ho])]
        simp [ho, zP_oc]
      · rw [if_neg h0, List.find?_cons]
        cases ho : zE_open cd f e with
        | true => rw [if_pos (by simp [hf])]; rfl
        | false =>
          rw [if_neg (by simp)]
          exact zP_tried r (e + 1)
    · rw [if_neg hf, if_neg (by simp [hf])]
      exact zP_tried r (e + 1)
/-- what the class's lists hold -/
def zP_lz (ww n un : Nat) (mk vl cd lz : Nat → Nat) : Prop :=
  (∀ k, un / 2 ^ k &&& 1 = 1 ↔ (k < n ∧ cd k = 0)) ∧
  ∀ w, w < ww → ∀ k, lz w / 2 ^ k &&& 1 = 1 ↔ (k < n ∧ zE_fit mk vl w k = true ∧ ∀ j, j < k → zE_fit mk vl w j = true → ¬ cd j = 0)
theorem zP_tb {x k : Nat} : (x / 2 ^ k &&& 1 = 1) = (x.testBit k = true) := by
  rw [Nat.testBit_eq_decide_div_mod_eq, Nat.and_one_is_mod]
  simp
theorem zP_closed {ww n un : Nat} {mk vl cd lz : Nat → Nat} (h : zP_lz ww n un mk vl cd lz) {w : Nat} (hw : w < ww) : (lz w &&& un = 0) ↔ ∀ j, j < n → zE_fit mk vl w j = true → ¬ cd j = 0 := by
  constructor
  · intro h0 j
    induction j using Nat.strongRecOn with
    | _ j ih =>
      intro hj hf hc
      by_cases q : ∀ i, i < j → zE_fit mk vl w i = true → ¬ cd i = 0
      · have a := (h.2 w hw j).mpr ⟨hj, hf, q⟩
        have b := (h.1 j).mpr ⟨hj, hc⟩
        rw [zP_tb] at a b
        have c : (lz w &&& un).testBit j = true := by rw [Nat.testBit_and, a, b]; rfl
        rw [h0] at c
        simp at c
      · apply q
        intro i hi hfi hci
        exact ih i hi (by omega) hfi hci
  · intro h0
    apply Nat.eq_of_testBit_eq
    intro k
    rw [Nat.testBit_and, Nat.zero_testBit]
    cases a : (lz w).testBit k with
    | false => rfl
    | true =>
      cases b : un.testBit k with
      | false => rfl
      | true =>
        rw [← zP_tb] at a b
        obtain ⟨a1, a2, a3⟩ := (h.2 w hw k).mp a
        exact absurd ((h.1 k).mp b).2 (h0 k a1 a2)
theorem zP_lists_at {mk vl : Nat → Nat} {un k : Nat} : ∀ (r i : Nat) (lz : Nat → Nat) (w : Nat), zE_lists mk vl un k i r lz w = if i ≤ w ∧ w < i + r then (if zE_fit mk vl w k && decide (lz w &&& un = 0) then lz w ||| 1 * 2 ^ k else lz w) else lz w
  | 0, i, lz, w => by rw [zE_lists, if_neg (by omega)]
  | r + 1, i, lz, w => by
    rw [zE_lists, zP_lists_at r (i + 1)]
    by_cases hw : w = i
    · subst hw
      rw [if_neg (show ¬ (w + 1 ≤ w ∧ w < w + 1 + r) by omega), if_pos (show w ≤ w ∧ w < w + (r + 1) by omega)]
      by_cases q : (zE_fit mk vl w k && decide (lz w &&& un = 0)) = true
      · rw [if_pos q, if_pos q, zz_up_s]
      · rw [if_neg q, if_neg q]
    · have e : (if (zE_fit mk vl i k && decide (lz i &&& un = 0)) = true then zz_up lz i (lz i ||| 1 * 2 ^ k) else lz) w = lz w := by
        split
        · exact zz_up_n hw
        · rfl
      rw [e]
      by_cases q : i + 1 ≤ w ∧ w < i + 1 + r
      · rw [if_pos q, if_pos (show i ≤ w ∧ w < i + (r + 1) by omega)]
      · rw [if_neg q, if_neg (show ¬ (i ≤ w ∧ w < i + (r + 1)) by omega)]
theorem zP_fit_up {mk vl : Nat → Nat} {n m v w j : Nat} (h : j < n) : zE_fit (zz_up mk n m) (zz_up vl n v) w j = zE_fit mk vl w j := by
  unfold zE_fit
  rw [zz_up_n (by omega), zz_up_n (by omega)]
theorem zP_or_bit {x n k : Nat} : ((x ||| 1 * 2 ^ n) / 2 ^ k &&& 1 = 1) ↔ (x / 2 ^ k &&& 1 = 1 ∨ k = n) := by
  rw [zP_tb, zP_tb, Nat.one_mul, Nat.testBit_or, Nat.testBit_two_pow, Bool.or_eq_true, decide_eq_true_eq]
  constructor
  · rintro (h | h)
    · exact Or.inl h
    · exact Or.inr h.symm
  · rintro (h | h)
    · exact Or.inl h
    · exact Or.inr h.symm
theorem zP_lz_add {ww n un : Nat} {mk vl cd lz : Nat → Nat} (h : zP_lz ww n un mk vl cd lz) (m v f : Nat) :
    zP_lz ww (n + 1) (if f = 0 then un ||| 1 * 2 ^ n else un) (zz_up mk n m) (zz_up vl n v) (zz_up cd n f) (zE_lists (zz_up mk n m) (zz_up vl n v) un n 0 ww lz) := by
  constructor
  · intro k
    by_cases hf : f = 0
    · rw [if_pos hf, zP_or_bit, h.1 k]
      constructor
      · rintro (⟨a, b⟩ | a)
        · exact ⟨by omega, by rw [zz_up_n (by omega)]; exact b⟩
        · rw [a, zz_up_s]; exact ⟨by omega, hf⟩
      · rintro ⟨a, b⟩
        by_cases q : k = n
        · exact Or.inr q
        · rw [zz_up_n q] at b
          exact Or.inl ⟨by omega, b⟩
    · rw [if_neg hf, h.1 k]
      constructor
      · rintro ⟨a, b⟩
        exact ⟨by omega, by rw [zz_up_n (by omega)]; exact b⟩
      · rintro ⟨a, b⟩
        by_cases q : k = n
        · rw [q, zz_up_s] at b; exact absurd b hf
        · rw [zz_up_n q] at b
          exact ⟨by omega, b⟩
  · intro w hw k
    have old : ∀ k, (lz w / 2 ^ k &&& 1 = 1) ↔ (k < n ∧ zE_fit (zz_up mk n m) (zz_up vl n v) w k = true ∧ ∀ j, j < k → zE_fit (zz_up mk n m) (zz_up vl n v) w j = true → ¬ zz_up cd n f j = 0) := by
      intro k
      rw [h.2 w hw k]
      constructor
      · rintro ⟨a, b, c⟩
        refine ⟨a, by rw [zP_fit_up a]; exact b, fun j hj => ?_⟩
        rw [zP_fit_up (by omega), zz_up_n (by omega)]
        exact c j hj
      · rintro ⟨a, b, c⟩
        refine ⟨a, by rw [zP_fit_up a] at b; exact b, fun j hj => ?_⟩
        have := c j hj
        rw [zP_fit_up (by omega), zz_up_n (by omega)] at this
        exact this
    have cl : (lz w &&& un = 0) ↔ ∀ j, j < n → zE_fit (zz_up mk n m) (zz_up vl n v) w j = true → ¬ zz_up cd n f j = 0 := by
      rw [zP_closed h hw]
      constructor
      · intro q j hj
        rw [zP_fit_up hj, zz_up_n (by omega)]
        exact q j hj
      · intro q j hj
        have := q j hj
        rw [zP_fit_up hj, zz_up_n (by omega)] at this
        exact this
    rw [zP_lists_at, if_pos ⟨Nat.zero_le w, by omega⟩]
    by_cases q : (zE_fit (zz_up mk n m) (zz_up vl n v) w n && decide (lz w &&& un = 0)) = true
    · rw [if_pos q, zP_or_bit, old k]
      simp only [Bool.and_eq_true, decide_eq_true_eq] at q
      constructor
      · rintro (⟨a, b, c⟩ | a)
        · exact ⟨by omega, b, c⟩
        · rw [a]; exact ⟨by omega, q.1, cl.mp q.2⟩
      · rintro ⟨a, b, c⟩
        by_cases e : k = n
        · exact Or.inr e
        · exact Or.inl ⟨by omega, b, c⟩
    · rw [if_neg q, old k]
      constructor
      · rintro ⟨a, b, c⟩
        exact ⟨by omega, b, c⟩
      · rintro ⟨a, b, c⟩
        by_cases e : k = n
        · rw [e] at b c
          exact absurd (by rw [b, Bool.true_and, decide_eq_true_eq]; exact cl.mpr c) q
        · exact ⟨by omega, b, c⟩
theorem zP_lz_0 {ww : Nat} {mk vl cd : Nat → Nat} : zP_lz ww 0 0 mk vl cd (fun _ => 0) := by
  constructor
  · intro k; simp
  · intro w _ k; simp
theorem zP_ml_lz {ww n un : Nat} {mk vl cd lz : Nat → Nat} (h : zP_lz ww n un mk vl cd lz) (hn : n ≤ 14) {w : Nat} (hw : w < ww) : zP_ml mk vl cd w 0 n = zP_bl (lz w) 0 14 := by
  rw [zP_ml_bl (x := lz w) n 0 (fun k h1 h2 => ⟨fun q => ⟨((h.2 w hw k).mp q).2.1, fun j _ b => ((h.2 w hw k).mp q).2.2 j b⟩, fun q => (h.2 w hw k).mpr ⟨by omega, q.1, fun j b => q.2 j (Nat.zero_le j) b⟩⟩)]
  have e := zP_bl_app (x := lz w) n 0 (14 - n)
  rw [show n + (14 - n) = 14 by omega] at e
  rw [e, zP_bl_nil (14 - n) (0 + n) (fun k h1 h2 q => by have := ((h.2 w hw k).mp q).1; omega), List.append_nil]
/-- what the reference's lists hold, for words below m -/
def zP_li (m : Nat) (lz li ls al : Nat → Nat) : Prop := ∀ w, w < m → zP_row li w 0 (ls w) = zP_bl (lz w) 0 14 ∧ al w ≤ w ∧ lz (al w) = lz w ∧ ∀ v, v < al w → ¬ lz v = lz w
theorem zP_li_one {ww n un : Nat} {mk vl cd lz : Nat → Nat} (h : zP_lz ww n un mk vl cd lz) (hn : n ≤ 14) (hb : ∀ j, lz j < 16384) {w : Nat} (hw : w < ww) {q : (Nat → Nat) × (Nat → Nat) × (Nat → Nat)} (hq : zP_li w lz q.1 q.2.1 q.2.2) :
    zP_li (w + 1) lz (zM_one mk vl cd n w q).1 (zM_one mk vl cd n w q).2.1 (zM_one mk vl cd n w q).2.2 := by
  obtain ⟨m1, m2, m3⟩ := zP_ml_made (mk := mk) (vl := vl) (fl := cd) (w := w) n 0 0 q.1
  rw [zP_ml_lz h hn hw, Nat.zero_add] at m1
  rw [zP_ml_lz h hn hw] at m2
  generalize hR : zM_ml mk vl cd w 0 n (q.1, 0) = R at m1 m2 m3
  have len : ∀ v, v < w → q.2.1 v ≤ 14 := by
    intro v hv
    have a := congrArg List.length (hq v hv).1
    rw [zP_row_len, zP_len14] at a
    rw [a]
    exact zz_bc_le 14 _
  have rows : ∀ v, v < w + 1 → zP_row R.1 v 0 (zz_up q.2.1 w R.2 v) = zP_bl (lz v) 0 14 := by
    intro v hv
    by_cases e : v = w
    · rw [e, zz_up_s, m1]; exact m2
    · rw [zz_up_n e, ← (hq v (by omega)).1]
      apply zP_row_congr
      intro j _ hj
      have := len v (by omega)
      exact m3 _ (Or.inl (by omega))
  have same : ∀ v, v < w + 1 → ((zM_same R.1 (zz_up q.2.1 w R.2) v w = true) ↔ lz v = lz w) := by
    intro v hv
    rw [zP_same, rows v hv, rows w (by omega)]
    exact ⟨fun q => zP_bl_inj (hb v) (hb w) q, fun q => by rw [q]⟩
  have ff : ∃ k, 0 ≤ k ∧ k ≤ w ∧ zz_first (fun v => zM_same R.1 (zz_up q.2.1 w R.2) v w) 0 (w + 1) = k + 1 ∧ zM_same R.1 (zz_up q.2.1 w R.2) k w = true :=
    zM_first_at (P := fun v => zM_same R.1 (zz_up q.2.1 w R.2) v w) (w + 1) 0 w (Nat.zero_le w) (by omega) (zM_same_refl _ _ w)
  have fmin : ∀ (P : Nat → Bool) (r i k : Nat), zz_first P i r = k + 1 → ∀ v, i ≤ v → v < k → P v = false := by
    intro P r
    induction r with
    | zero => intro i k h; simp [zz_first] at h
    | succ r ih =>
      intro i k h v h1 h2
      rw [zz_first] at h
      by_cases hp : P i = true
      · rw [if_pos hp] at h; omega
      · rw [if_neg hp] at h
        by_cases e : v = i
        · rw [e]; simpa using hp
        · exact ih (i + 1) k h v (by omega) h2
  obtain ⟨k, -, k2, k3, k4⟩ := ff
  intro v hv
  unfold zM_one
  rw [hR]
  refine ⟨rows v hv, ?_⟩
  show zz_up q.2.2 w (zz_first (fun v => zM_same R.1 (zz_up q.2.1 w R.2) v w) 0 (w + 1) - 1) v ≤ v ∧ lz (zz_up q.2.2 w (zz_first (fun v => zM_same R.1 (zz_up q.2.1 w R.2) v w) 0 (w + 1) - 1) v) = lz v ∧ ∀ u, u < zz_up q.2.2 w (zz_first (fun v => zM_same R.1 (zz_up q.2.1 w R.2) v w) 0 (w + 1) - 1) v → ¬ lz u = lz v
  rw [k3, Nat.add_sub_cancel]
  by_cases e : v = w
  · rw [e, zz_up_s]
    refine ⟨k2, (same k (by omega)).mp k4, fun u hu hl => ?_⟩
    have a := fmin _ _ _ _ k3 u (Nat.zero_le u) hu
    have b := (same u (by omega)).mpr hl
    rw [b] at a
    exact absurd a (by decide)
  · rw [zz_up_n e]
    exact (hq v (by omega)).2
theorem zP_li_all {ww n un : Nat} {mk vl cd lz : Nat → Nat} (h : zP_lz ww n un mk vl cd lz) (hn : n ≤ 14) (hb : ∀ j, lz j < 16384) : ∀ (r w : Nat) (q : (Nat → Nat) × (Nat → Nat) × (Nat → Nat)), w + r ≤ ww → zP_li w lz q.1 q.2.1 q.2.2 → zP_li (w + r) lz (zM_lists mk vl cd n w r q).1 (zM_lists mk vl cd n w r q).2.1 (zM_lists mk vl cd n w r q).2.2
  | 0, w, q, _, hq => hq
  | r + 1, w, q, hw, hq => by
    rw [zM_lists, show w + (r + 1) = w + 1 + r by omega]
    exact zP_li_all h hn hb r (w + 1) _ (by omega) (zP_li_one h hn hb (by omega) hq)
theorem zP_lb {mk vl cd : Nat → Nat} {n : Nat} (hn : n ≤ 14) : ∀ (r w : Nat) (q : (Nat → Nat) × (Nat → Nat) × (Nat → Nat)), (∀ j, q.1 j < 14) → (∀ j, q.2.1 j ≤ 14) → (∀ j, q.2.2 j < 256) → w + r ≤ 256 → (∀ j, (zM_lists mk vl cd n w r q).1 j < 14) ∧ (∀ j, (zM_lists mk vl cd n w r q).2.1 j ≤ 14) ∧ ∀ j, (zM_lists mk vl cd n w r q).2.2 j < 256
  | 0, w, q, a, b, c, _ => ⟨a, b, c⟩
  | r + 1, w, q, a, b, c, hw => by
    rw [zM_lists]
    have m := zM_ml_b (mk := mk) (vl := vl) (fl := cd) (w := w) n 0 (q.1, 0) a (Nat.le_refl 0) (by omega)
    refine zP_lb hn r (w + 1) _ m.1 (zz_up_le b m.2) ?_ (by omega)
    refine zz_up_lt c ?_
    have := zz_first_le (P := fun v => zM_same (zM_ml mk vl cd w 0 n (q.1, 0)).1 (zz_up q.2.1 w (zM_ml mk vl cd w 0 n (q.1, 0)).2) v w) (w + 1) 0
    omega
