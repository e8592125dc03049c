/-! arguments that are in order -/
theorem zQ_nn (x : Int32) (h : 0 ≤ x.toInt) : x = nI x.toInt.toNat := by
  have b := x.toInt_lt
  apply Int32.toInt_inj.mp
  rw [nI_toInt (by omega)]
  omega
theorem zQ_0 : (0 : Int32).toInt = 0 := by decide
theorem zQ_m1 : (-1 : Int32).toInt = -1 := by decide
theorem zQ_W {W : Nat} (hW : W ≤ 8) (x : Int32) : zD_isW W x = zM_in x (nI 0) (nI (1 * 2 ^ W - 1)) := by
  have p2 : 2 ^ W ≤ 256 := Nat.pow_le_pow_right (n := 2) (by decide) hW
  have p1 := Nat.two_pow_pos W
  unfold zD_isW zM_in
  apply Bool.eq_iff_iff.mpr
  simp only [Bool.and_eq_true, Bool.not_eq_true', decide_eq_false_iff_not, Int32.lt_iff_toInt_lt, Int32.le_iff_toInt_le, zQ_0]
  rw [nI_toInt (by omega), nI_toInt (by omega), nI_toInt (by omega)]
  omega
theorem zQ_F (x : Int32) : zD_isF x = zM_in x (nI 0) (nI 255) := by
  unfold zD_isF zM_in
  apply Bool.eq_iff_iff.mpr
  simp only [Bool.and_eq_true, Bool.not_eq_true', decide_eq_false_iff_not, Int32.lt_iff_toInt_lt, zQ_0]
  rw [nI_toInt (n := 0) (by omega)]
  omega
theorem zQ_K (x : Int32) : zD_isK x = zM_in x (nI 0) (nI 2) := by
  unfold zD_isK zM_in
  apply Bool.eq_iff_iff.mpr
  simp only [Bool.and_eq_true, Bool.not_eq_true', decide_eq_false_iff_not, Int32.lt_iff_toInt_lt, zQ_0]
  rw [nI_toInt (n := 0) (by omega)]
  omega
theorem zQ_e {W : Nat} (hW : W ≤ 8) (x1 x2 x3 x4 : Int32) : zD_eok W x1 x2 x3 x4 = zM_eok W x1 x2 x3 x4 := by
  unfold zD_eok zM_eok
  rw [zQ_W hW]
  unfold zM_in
  apply Bool.eq_iff_iff.mpr
  simp only [Bool.and_eq_true, Bool.not_eq_true', decide_eq_false_iff_not, decide_eq_true_eq, Int32.lt_iff_toInt_lt, Int32.le_iff_toInt_le]
  constructor
  · rintro ⟨a, b, c, d, e, f⟩; exact ⟨a, b, ⟨c, d⟩, e, by omega⟩
  · rintro ⟨a, b, ⟨c, d⟩, e, f⟩; exact ⟨a, b, c, d, e, by omega⟩
theorem zQ_right {W : Nat} (hW : W ≤ 8) (x y : Int32) : (zD_isW W x && zD_isF y) = zM_right W x y := by
  unfold zM_right
  rw [zQ_W hW, zQ_F]
theorem zQ_in {m : Nat} (hm : m < 2 ^ 31) {x : Int32} (h : zM_in x (nI 0) (nI m) = true) : ∃ k, x = nI k ∧ k ≤ m := by
  unfold zM_in at h
  simp only [Bool.and_eq_true, Bool.not_eq_true', decide_eq_false_iff_not, Int32.lt_iff_toInt_lt] at h
  rw [nI_toInt (n := 0) (by omega), nI_toInt hm] at h
  exact ⟨_, zQ_nn x (by omega), by omega⟩
theorem zQ_word {W : Nat} (hW : W ≤ 8) {x : Int32} (h : zM_in x (nI 0) (nI (1 * 2 ^ W - 1)) = true) : ∃ k, x = nI k ∧ k < 2 ^ W ∧ k < 1 * 2 ^ W := by
  have p2 : 2 ^ W ≤ 256 := Nat.pow_le_pow_right (n := 2) (by decide) hW
  have p1 := Nat.two_pow_pos W
  obtain ⟨k, e, h1⟩ := zQ_in (by omega) h
  exact ⟨k, e, by omega, by omega⟩
theorem zQ_and (a b : Nat) : nI a &&& nI b = nI (a &&& b) := by
  apply Int32.toBitVec_inj.1
  show BitVec.ofNat 32 a &&& BitVec.ofNat 32 b = BitVec.ofNat 32 (a &&& b)
  rw [BitVec.ofNat_and]
theorem zQ_xor (a b : Nat) : nI a ^^^ nI b = nI (a ^^^ b) := by
  apply Int32.toBitVec_inj.1
  show BitVec.ofNat 32 a ^^^ BitVec.ofNat 32 b = BitVec.ofNat 32 (a ^^^ b)
  rw [BitVec.ofNat_xor]
theorem zQ_inj32 {a : Nat} (h : a < 4294967296) (e : nI a = 0) : a = 0 := by
  have := congrArg (fun x => Int32.toBitVec x |>.toNat) e
  simp only [nI] at this
  have e2 : (Int32.ofNat a).toBitVec.toNat = a % 2 ^ 32 := BitVec.toNat_ofNat a 32
  rw [e2] at this
  have e3 : (0 : Int32).toBitVec.toNat = 0 := by decide
  omega
theorem zQ_mv {m : Nat} {x : Int32} (hm : m < 256) (h : x &&& (nI m ^^^ -1) = 0) : ∃ v, x = nI v ∧ v < 256 ∧ v &&& m = v ∧ v &&& (m ^^^ 4294967295) = 0 := by
  have e := zz_self x
  have lt := x.toBitVec.isLt
  generalize x.toBitVec.toNat = v at e lt
  subst e
  have e1 : (-1 : Int32) = nI 4294967295 := by decide
  rw [e1, zQ_xor, zQ_and] at h
  have h0 : v &&& (m ^^^ 4294967295) = 0 := zQ_inj32 (Nat.lt_of_le_of_lt Nat.and_le_left lt) h
  have vm : v &&& m = v := by
    apply Nat.eq_of_testBit_eq
    intro i
    rw [Nat.testBit_and]
    cases q : v.testBit i with
    | false => rfl
    | true =>
      by_cases hi : i < 32
      · have a := congrArg (fun y => Nat.testBit y i) h0
        have m1 : ∀ i, i < 32 → (4294967295 : Nat).testBit i = true := by decide
        simp only [Nat.testBit_and, Nat.testBit_xor, Nat.zero_testBit, q, m1 i hi, Bool.true_and] at a
        cases q2 : m.testBit i with
        | true => rfl
        | false => rw [q2] at a; exact absurd a (by decide)
      · have := Nat.testBit_lt_two_pow (x := v) (i := i) (Nat.lt_of_lt_of_le lt (Nat.pow_le_pow_right (n := 2) (by decide) (show 32 ≤ i by omega)))
        rw [this] at q; exact absurd q (by decide)
  have le : v ≤ m := by rw [← vm]; exact Nat.and_le_right
  exact ⟨v, rfl, by omega, vm, h0⟩
theorem zQ_enc {W : Nat} (hW : W ≤ 8) {x1 x2 x3 x4 : Int32} (h : zM_eok W x1 x2 x3 x4 = true) : ∃ m v l f, x1 = nI m ∧ x2 = nI v ∧ x3 = nI l ∧ x4 = zz_o f ∧ m < 1 * 2 ^ W ∧ v < 256 ∧ v &&& m = v ∧ v &&& (m ^^^ 4294967295) = 0 ∧ 1 ≤ l ∧ l ≤ 3 ∧ f ≤ 8 := by
  have p2 : 2 ^ W ≤ 256 := Nat.pow_le_pow_right (n := 2) (by decide) hW
  unfold zM_eok at h
  simp only [Bool.and_eq_true, decide_eq_true_eq] at h
  obtain ⟨h1, h2, h3, h4⟩ := h
  obtain ⟨m, rfl, -, hm⟩ := zQ_word hW h1
  obtain ⟨v, rfl, hv, vm, v0⟩ := zQ_mv (by omega) h2
  unfold zM_in at h3 h4
  simp only [Bool.and_eq_true, Bool.not_eq_true', decide_eq_false_iff_not, Int32.lt_iff_toInt_lt, zQ_m1] at h3 h4
  rw [nI_toInt (n := 1) (by omega), nI_toInt (n := 3) (by omega)] at h3
  rw [nI_toInt (n := 7) (by omega)] at h4
  have e3 := zQ_nn x3 (by omega)
  by_cases q : x4.toInt = -1
  · have e4 : x4 = zz_o 0 := Int32.toInt_inj.mp (by rw [q]; decide)
    exact ⟨m, v, _, 0, rfl, rfl, e3, e4, hm, hv, vm, v0, by omega, by omega, by omega⟩
  · have e4 := zQ_nn x4 (by omega)
    exact ⟨m, v, _, x4.toInt.toNat + 1, rfl, rfl, e3, e4, hm, hv, vm, v0, by omega, by omega, by omega⟩
theorem zQ_has {rn : Nat} (h1 : 1 ≤ rn) (h2 : rn ≤ 511) (x : Int32) : zR_has x rn = zM_in x (nI 0) (nI (rn - 1)) := by
  unfold zR_has zM_in
  apply Bool.eq_iff_iff.mpr
  simp only [Bool.and_eq_true, Bool.not_eq_true', decide_eq_false_iff_not, Int32.lt_iff_toInt_lt, Int32.le_iff_toInt_le, zQ_0]
  rw [nI_toInt (n := 0) (by omega), nI_toInt (by omega), nI_toInt (by omega)]
  omega
theorem zQ_out {m : Nat} (hm : m < 2 ^ 31) {x : Int32} (h : zM_in x (nI 0) (nI m) = false) : x.toInt < 0 ∨ (m : Int) < x.toInt := by
  have h' : ¬ zM_in x (nI 0) (nI m) = true := by rw [h]; decide
  unfold zM_in at h'
  simp only [Bool.and_eq_true, Bool.not_eq_true', decide_eq_false_iff_not, Int32.lt_iff_toInt_lt] at h'
  rw [nI_toInt (n := 0) (by omega), nI_toInt hm] at h'
  omega
theorem zQ_cost (x y : Int32) : (zD_isK x && (!decide (y < 0) && decide (y ≤ nI 1))) = (zM_in x (nI 0) (nI 2) && zM_in y (nI 0) (nI 1)) := by
  rw [zQ_K]
  have e : (!decide (y < 0) && decide (y ≤ nI 1)) = zM_in y (nI 0) (nI 1) := by
    unfold zM_in
    apply Bool.eq_iff_iff.mpr
    simp only [Bool.and_eq_true, Bool.not_eq_true', decide_eq_false_iff_not, decide_eq_true_eq, Int32.lt_iff_toInt_lt, Int32.le_iff_toInt_le, zQ_0]
    rw [nI_toInt (n := 0) (by omega)]
    omega
  rw [e]
theorem zQ_listed {b : Nat} (hb : b ≤ 14) (x : Int32) : (zM_in x (nI 0) (nI b - nI 1) = true ∧ ∃ i, x = nI i ∧ i < b) ∨ (zM_in x (nI 0) (nI b - nI 1) = false ∧ (x < 0 ∨ nI b ≤ x)) := by
  have e : (nI b - nI 1).toInt = (b : Int) - 1 := by
    rw [Int32.toInt_sub, nI_toInt (by omega), nI_toInt (by omega)]
    exact Int.bmod_eq_of_le (by omega) (by omega)
  cases h : zM_in x (nI 0) (nI b - nI 1) with
  | true =>
    unfold zM_in at h
    simp only [Bool.and_eq_true, Bool.not_eq_true', decide_eq_false_iff_not, Int32.lt_iff_toInt_lt] at h
    rw [nI_toInt (n := 0) (by omega), e] at h
    exact Or.inl ⟨rfl, _, zQ_nn x (by omega), by omega⟩
  | false =>
    have h' : ¬ zM_in x (nI 0) (nI b - nI 1) = true := by rw [h]; decide
    unfold zM_in at h'
    simp only [Bool.and_eq_true, Bool.not_eq_true', decide_eq_false_iff_not, Int32.lt_iff_toInt_lt] at h'
    rw [nI_toInt (n := 0) (by omega), e] at h'
    refine Or.inr ⟨rfl, ?_⟩
    rw [Int32.lt_iff_toInt_lt, Int32.le_iff_toInt_le, zQ_0, nI_toInt (by omega)]
    omega
theorem zQ_neg0 (x : Int32) : x < 0 ∨ nI 0 ≤ x := by
  rw [Int32.lt_iff_toInt_lt, Int32.le_iff_toInt_le, zQ_0, nI_toInt (by omega)]
  omega
/-! as the law's walk asks for it -/
section ZPK
variable {W n un kind : Nat} {mk vl ln cd lz : Nat → Nat} {g : zDg} {kk : zDk} {ws wn : Nat} {rg : Nat → Nat} {li2 ls2 al2 on2 mn2 bt2 wo2 to2 : Nat → Nat} {nd : Nat} {se ze no wd : Nat → Nat}
theorem zP_I.U0 (h : zP_I W n un kind mk vl ln cd lz g kk ws wn rg li2 ls2 al2 (on2, mn2, bt2, wo2, to2) nd se ze no wd) : ∃ rk : Nat → Nat, zM_U on2 bt2 se ze no kind (fun k => k < nd) rk ∧ rk 0 = W :=
  ⟨_, h.U, by
    show W - (zD_look W (3 ^ W) kind lz g).2.2.2.2.2.1 0 = W
    rw [h.look.2.2.rt.2]; rfl⟩
theorem zP_I.walk {kw kf ka : Nat → Nat} {kn : Nat} (h : zP_I W n un kind mk vl ln cd lz g (kw, kf, ka, kn) ws wn rg li2 ls2 al2 (on2, mn2, bt2, wo2, to2) nd se ze no wd) (w w' : Nat) (ew : w = w') (hw : w < 2 ^ W) : ∃ rk : Nat → Nat, zM_U on2 bt2 se ze no kind (fun k => k < nd) rk ∧
    zM_lf on2 bt2 se ze no kind w (rk 0 + 1) 0 < 511 ∧ ¬ on2 (se (zM_lf on2 bt2 se ze no kind w (rk 0 + 1) 0)) = 0 ∧
    (zD_look W (3 ^ W) kind lz g).2.2.2.2.2.1 (zD_leaf W w' (zD_look W (3 ^ W) kind lz g).2.2) = zM_dp on2 bt2 se ze no kind w (rk 0 + 1) 0 ∧
    ∀ (fl : Nat), fl < 256 → ∀ h1 b1 t1 : Nat, zM_find w fl (zM_af cd li2 (on2 (se (zM_lf on2 bt2 se ze no kind w (rk 0 + 1) 0)) - 1) fl 0 (ls2 (on2 (se (zM_lf on2 bt2 se ze no kind w (rk 0 + 1) 0)) - 1))) (zM_dp on2 bt2 se ze no kind w (rk 0 + 1) 0) (kw, kf, ka, h1, b1, t1) =
        (((zD_ans W (3 ^ W) n kind w' fl cd lz g (kw, kf, ka, kn) (h1, b1, t1)).2.1.1, (zD_ans W (3 ^ W) n kind w' fl cd lz g (kw, kf, ka, kn) (h1, b1, t1)).2.1.2.1, (zD_ans W (3 ^ W) n kind w' fl cd lz g (kw, kf, ka, kn) (h1, b1, t1)).2.1.2.2.1, (zD_ans W (3 ^ W) n kind w' fl cd lz g (kw, kf, ka, kn) (h1, b1, t1)).2.2.1.1, (zD_ans W (3 ^ W) n kind w' fl cd lz g (kw, kf, ka, kn) (h1, b1, t1)).2.2.1.2.1, (zD_ans W (3 ^ W) n kind w' fl cd lz g (kw, kf, ka, kn) (h1, b1, t1)).2.2.1.2.2), (zD_ans W (3 ^ W) n kind w' fl cd lz g (kw, kf, ka, kn) (h1, b1, t1)).2.2.2) ∧
      (zD_ans W (3 ^ W) n kind w' fl cd lz g (kw, kf, ka, kn) (h1, b1, t1)).2.2.2 ≤ 14 ∧
      zP_I W n un kind mk vl ln cd lz (zD_ans W (3 ^ W) n kind w' fl cd lz g (kw, kf, ka, kn) (h1, b1, t1)).1 (zD_ans W (3 ^ W) n kind w' fl cd lz g (kw, kf, ka, kn) (h1, b1, t1)).2.1 ws wn rg li2 ls2 al2 (on2, mn2, bt2, wo2, to2) nd se ze no wd := by
  subst ew
  obtain ⟨rk, hU, hrk⟩ := h.U0
  refine ⟨rk, hU, ?_⟩
  rw [hrk]
  obtain ⟨a, b, c, d⟩ := h.leaf w
  have nM := h.look.2.2.nM
  have m5 := h.ww.2.2.2.2
  exact ⟨Nat.lt_of_lt_of_le b (by omega), c, d, fun fl hfl h1 b1 t1 => h.ans hw hfl (h1, b1, t1) _ _ rfl rfl⟩
theorem zP_I.listed (h : zP_I W n un kind mk vl ln cd lz g kk ws wn rg li2 ls2 al2 (on2, mn2, bt2, wo2, to2) nd se ze no wd) {k : Nat} (hk : k < nd) (x : Int32) : (¬ on2 (se k) = 0 ∧ ∃ j, x = nI j ∧ j < ls2 (on2 (se k) - 1)) ∨
    ((on2 (se k) = 0 ∨ zM_in x (nI 0) (nI (ls2 (on2 (se k) - 1)) - nI 1) = false) ∧ (x < 0 ∨ nI (zz_bc 14 ((zD_look W (3 ^ W) kind lz g).2.2.2.2.2.2.1 k)) ≤ x)) := by
  have e : zz_bc 14 ((zD_look W (3 ^ W) kind lz g).2.2.2.2.2.2.1 k) = (if on2 (se k) = 0 then 0 else ls2 (on2 (se k) - 1)) := (h.node hk).2.2.2.2.1
  rw [e]
  by_cases q : on2 (se k) = 0
  · rw [if_pos q]
    exact Or.inr ⟨Or.inl q, zQ_neg0 x⟩
  · rw [if_neg q]
    rcases zQ_listed (h.lsb (on2 (se k) - 1)) x with ⟨-, j, h1, h2⟩ | ⟨h1, h2⟩
    · exact Or.inl ⟨q, j, h1, h2⟩
    · exact Or.inr ⟨Or.inr h1, h2⟩
theorem zP_I.nd511 (h : zP_I W n un kind mk vl ln cd lz g kk ws wn rg li2 ls2 al2 (on2, mn2, bt2, wo2, to2) nd se ze no wd) : 1 ≤ nd ∧ nd ≤ 511 ∧ (zD_look W (3 ^ W) kind lz g).2.2.2.2.2.2.2.1 = nd ∧ (zD_look W (3 ^ W) kind lz g).2.2.2.2.2.2.2.2 = zz_cnt (fun j => !decide (on2 (se j) = 0)) 0 nd := by
  have t := h.look.2.2
  have m5 := h.ww.2.2.2.2
  exact ⟨t.n1, Nat.le_trans t.nM m5, t.rn, t.lv⟩
end ZPK
