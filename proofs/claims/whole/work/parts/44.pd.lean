/-! a set's best bits: the reference's choice and the class's packed weights -/
def zP_ci (mn wo0 to0 : Nat → Nat) (k s m : Nat) (q : zMc) : Prop :=
  (q.1 = 0 ∧ ∀ b, b < m → ¬ zM_dg s b = 2) ∨
  (∃ b0, b0 < m ∧ q.1 = b0 + 1 ∧ zM_dg s b0 = 2 ∧ q.2.1 (6561 * k + s) = 1 + max (wo0 (6561 * k + (s - (2 - 0) * 3 ^ b0))) (wo0 (6561 * k + (s - (2 - 1) * 3 ^ b0))) ∧ q.2.2 (6561 * k + s) = mn s + to0 (6561 * k + (s - (2 - 0) * 3 ^ b0)) + to0 (6561 * k + (s - (2 - 1) * 3 ^ b0)) ∧ (k = 2 → ∀ b, b0 < b → b < m → ¬ zM_dg s b = 2))
def zP_co (wo0 to0 : Nat → Nat) (k s : Nat) (q : zMc) : Prop := ∀ j, j ≠ 6561 * k + s → q.2.1 j = wo0 j ∧ q.2.2 j = to0 j
theorem zP_co1 {mn wo0 to0 : Nat → Nat} {k s b : Nat} {q : zMc} (h : zP_co wo0 to0 k s q) : zP_co wo0 to0 k s (zM_ch1 mn k s b q) := fun j hj => by
  have a := zM_ch1_ne (mn := mn) (b := b) (q := q) hj
  exact ⟨a.1.trans (h j hj).1, a.2.trans (h j hj).2⟩
theorem zP_ne {k s b v : Nat} (_ : s < 6561) (h : zM_dg s b = 2) (hv : v ≤ 1) : 6561 * k + (s - (2 - v) * 3 ^ b) ≠ 6561 * k + s := by
  have a := zM_dg_side h
  have b2 := zz_3pos b
  rcases (show v = 0 ∨ v = 1 by omega) with rfl | rfl <;> omega
theorem zP_ch1_yes {mn wo0 to0 : Nat → Nat} {k s b : Nat} {q : zMc} (hs : s < 6561) (hq : zP_co wo0 to0 k s q) (hd : zM_dg s b = 2) :
    zM_ch1 mn k s b q = if zM_bt k q.1 (1 + max (wo0 (6561 * k + (s - (2 - 0) * 3 ^ b))) (wo0 (6561 * k + (s - (2 - 1) * 3 ^ b)))) (mn s + to0 (6561 * k + (s - (2 - 0) * 3 ^ b)) + to0 (6561 * k + (s - (2 - 1) * 3 ^ b))) (q.2.1 (6561 * k + s)) (q.2.2 (6561 * k + s)) = true then
      (b + 1, zz_up q.2.1 (6561 * k + s) (1 + max (wo0 (6561 * k + (s - (2 - 0) * 3 ^ b))) (wo0 (6561 * k + (s - (2 - 1) * 3 ^ b)))), zz_up q.2.2 (6561 * k + s) (mn s + to0 (6561 * k + (s - (2 - 0) * 3 ^ b)) + to0 (6561 * k + (s - (2 - 1) * 3 ^ b))))
    else q := by
  have n0 := hq _ (zP_ne (k := k) (v := 0) hs hd (by decide))
  have n1 := hq _ (zP_ne (k := k) (v := 1) hs hd (by decide))
  unfold zM_ch1
  rw [if_pos hd, n0.1, n0.2, n1.1, n1.2]
theorem zP_ci1 {mn wo0 to0 : Nat → Nat} {k s m : Nat} {q : zMc} (hs : s < 6561) (hq : zP_co wo0 to0 k s q) (h : zP_ci mn wo0 to0 k s m q) : zP_ci mn wo0 to0 k s (m + 1) (zM_ch1 mn k s m q) := by
  by_cases hd : zM_dg s m = 2
  · rw [zP_ch1_yes hs hq hd]
    split
    · exact Or.inr ⟨m, by omega, rfl, hd, zz_up_s, zz_up_s, fun _ b h1 h2 => by omega⟩
    · next hb =>
      rw [zM_bt_iff] at hb
      rcases h with ⟨h0, -⟩ | ⟨b0, a1, a2, a3, a4, a5, a6⟩
      · exact absurd (Or.inl h0) hb
      · exact Or.inr ⟨b0, by omega, a2, a3, a4, a5, fun k2 => absurd (Or.inr (Or.inl k2)) hb⟩
  · rw [zM_ch1_no hd]
    rcases h with ⟨h0, h1⟩ | ⟨b0, a1, a2, a3, a4, a5, a6⟩
    · refine Or.inl ⟨h0, fun b hb => ?_⟩
      by_cases e : b = m
      · rw [e]; exact hd
      · exact h1 b (by omega)
    · refine Or.inr ⟨b0, by omega, a2, a3, a4, a5, fun k2 b h1 h2 => ?_⟩
      by_cases e : b = m
      · rw [e]; exact hd
      · exact a6 k2 b h1 (by omega)
theorem zP_cia {mn wo0 to0 : Nat → Nat} {k s : Nat} (hs : s < 6561) : ∀ (r m : Nat) (q : zMc), zP_co wo0 to0 k s q → zP_ci mn wo0 to0 k s m q → zP_ci mn wo0 to0 k s (m + r) (zM_ch mn k s m r q)
  | 0, _, _, _, h => h
  | r + 1, m, q, hq, h => by
    rw [zM_ch, show m + (r + 1) = m + 1 + r by omega]
    exact zP_cia hs r (m + 1) _ (zP_co1 hq) (zP_ci1 hs hq h)
def zP_j0 (s : Nat) (q : zMc) (lw : Nat) : Prop := lw = if q.1 = 0 then 1048576 else (q.2.1 (6561 * 0 + s) - 1) * 2 ^ 3 + (q.1 - 1)
def zP_j1 (mn : Nat → Nat) (s : Nat) (q : zMc) (lt : Nat) : Prop := lt = if q.1 = 0 then 1048576 else (q.2.2 (6561 * 1 + s) - mn s) * 2 ^ 3 + (q.1 - 1)
theorem zP_p0 {mn wo0 to0 wo to : Nat → Nat} {s fr : Nat} (hs : s < 6561) (hfr : ∀ b, b < 8 → (fr / 2 ^ b &&& 1 = 1 ↔ zM_dg s b = 2))
    (hz : ∀ b v, b < 8 → v ≤ 1 → zM_dg s b = 2 → wo (s - (2 - v) * 3 ^ b) / 2 ^ 3 = wo0 (6561 * 0 + (s - (2 - v) * 3 ^ b)) ∧ wo0 (6561 * 0 + (s - (2 - v) * 3 ^ b)) ≤ 8) :
    ∀ (r m : Nat) (q : zMc) (l : Nat × Nat), m + r ≤ 8 → zP_co wo0 to0 0 s q → zP_ci mn wo0 to0 0 s m q → zP_j0 s q l.1 → zP_j0 s (zM_ch mn 0 s m r q) (zT_least wo to s fr m r l).1
  | 0, _, _, _, _, _, _, h => h
  | r + 1, m, q, l, hm, hq, hc, h => by
    rw [zM_ch, zT_least]
    refine zP_p0 hs hfr hz r (m + 1) _ _ (by omega) (zP_co1 hq) (zP_ci1 hs hq hc) ?_
    by_cases hd : zM_dg s m = 2
    · have z0 := hz m 0 (by omega) (by decide) hd
      have z1 := hz m 1 (by omega) (by decide) hd
      rw [if_pos ((hfr m (by omega)).mpr hd), zP_ch1_yes hs hq hd]
      show zP_j0 s _ (min l.1 (max (wo (s - (2 - 0) * 3 ^ m) / 2 ^ 3) (wo (s - (2 - 1) * 3 ^ m) / 2 ^ 3) * 2 ^ 3 + m))
      rw [z0.1, z1.1]
      generalize hA : wo0 (6561 * 0 + (s - (2 - 0) * 3 ^ m)) = A at *
      generalize hB : wo0 (6561 * 0 + (s - (2 - 1) * 3 ^ m)) = B at *
      unfold zP_j0 at h ⊢
      split
      · next hb =>
        rw [zM_bt_iff] at hb
        show _ = if m + 1 = 0 then 1048576 else (zz_up q.2.1 (6561 * 0 + s) (1 + max A B) (6561 * 0 + s) - 1) * 2 ^ 3 + (m + 1 - 1)
        rw [if_neg (by omega), zz_up_s]
        rcases hc with ⟨h0, -⟩ | ⟨b0, a1, a2, a3, a4, a5, a6⟩
        · rw [if_pos h0] at h
          rw [h]; omega
        · rw [if_neg (by omega)] at h
          rw [h]
          rcases hb with b | b | b | b
          · omega
          · omega
          · have := b.2; omega
          · omega
      · next hb =>
        rw [zM_bt_iff] at hb
        rcases hc with ⟨h0, -⟩ | ⟨b0, a1, a2, a3, a4, a5, a6⟩
        · exact absurd (Or.inl h0) hb
        · rw [if_neg (by omega)] at h ⊢
          have : ¬ 1 + max A B < q.2.1 (6561 * 0 + s) := fun z => hb (Or.inr (Or.inr (Or.inl ⟨rfl, z⟩)))
          rw [h]; omega
    · rw [if_neg (fun z => hd ((hfr m (by omega)).mp z)), zM_ch1_no hd]
      exact h
theorem zP_p1 {mn wo0 to0 wo to : Nat → Nat} {s fr : Nat} (hs : s < 6561) (hfr : ∀ b, b < 8 → (fr / 2 ^ b &&& 1 = 1 ↔ zM_dg s b = 2))
    (hz : ∀ b v, b < 8 → v ≤ 1 → zM_dg s b = 2 → to (s - (2 - v) * 3 ^ b) / 2 ^ 3 = to0 (6561 * 1 + (s - (2 - v) * 3 ^ b)) ∧ to0 (6561 * 1 + (s - (2 - v) * 3 ^ b)) ≤ 2048) :
    ∀ (r m : Nat) (q : zMc) (l : Nat × Nat), m + r ≤ 8 → zP_co wo0 to0 1 s q → zP_ci mn wo0 to0 1 s m q → zP_j1 mn s q l.2 → zP_j1 mn s (zM_ch mn 1 s m r q) (zT_least wo to s fr m r l).2
  | 0, _, _, _, _, _, _, h => h
  | r + 1, m, q, l, hm, hq, hc, h => by
    rw [zM_ch, zT_least]
    refine zP_p1 hs hfr hz r (m + 1) _ _ (by omega) (zP_co1 hq) (zP_ci1 hs hq hc) ?_
    by_cases hd : zM_dg s m = 2
    · have z0 := hz m 0 (by omega) (by decide) hd
      have z1 := hz m 1 (by omega) (by decide) hd
      rw [if_pos ((hfr m (by omega)).mpr hd), zP_ch1_yes hs hq hd]
      show zP_j1 mn s _ (min l.2 ((to (s - (2 - 0) * 3 ^ m) / 2 ^ 3 + to (s - (2 - 1) * 3 ^ m) / 2 ^ 3) * 2 ^ 3 + m))
      rw [z0.1, z1.1]
      generalize hA : to0 (6561 * 1 + (s - (2 - 0) * 3 ^ m)) = A at *
      generalize hB : to0 (6561 * 1 + (s - (2 - 1) * 3 ^ m)) = B at *
      unfold zP_j1 at h ⊢
      split
      · next hb =>
        rw [zM_bt_iff] at hb
        show _ = if m + 1 = 0 then 1048576 else (zz_up q.2.2 (6561 * 1 + s) (mn s + A + B) (6561 * 1 + s) - mn s) * 2 ^ 3 + (m + 1 - 1)
        rw [if_neg (by omega), zz_up_s]
        rcases hc with ⟨h0, -⟩ | ⟨b0, a1, a2, a3, a4, a5, a6⟩
        · rw [if_pos h0] at h
          rw [h]; omega
        · rw [if_neg (by omega)] at h
          rw [h]
          rcases hb with b | b | b | b
          · omega
          · omega
          · omega
          · have := b.2; omega
      · next hb =>
        rw [zM_bt_iff] at hb
        rcases hc with ⟨h0, -⟩ | ⟨b0, a1, a2, a3, a4, a5, a6⟩
        · exact absurd (Or.inl h0) hb
        · rw [if_neg (by omega)] at h ⊢
          have : ¬ mn s + A + B < q.2.2 (6561 * 1 + s) := fun z => hb (Or.inr (Or.inr (Or.inr ⟨rfl, z⟩)))
          rw [h]; omega
    · rw [if_neg (fun z => hd ((hfr m (by omega)).mp z)), zM_ch1_no hd]
      exact h
/-- a set worked out, for one kind -/
theorem zP_w2_ne {on mn : Nat → Nat} {W s k j : Nat} {q : zMb} (hj : j ≠ 6561 * k + s) : (zM_w2 on mn W s k q).1 j = q.1 j ∧ (zM_w2 on mn W s k q).2.1 j = q.2.1 j ∧ (zM_w2 on mn W s k q).2.2 j = q.2.2 j := by
  unfold zM_w2
  split
  · have a := zM_ch_ne (mn := mn) hj W 0 (0, zz_up q.2.1 (6561 * k + s) 0, zz_up q.2.2 (6561 * k + s) 0)
    refine ⟨(zz_up_n hj).trans (zz_up_n hj), ?_, ?_⟩
    · exact a.1.trans (zz_up_n hj)
    · exact a.2.trans (zz_up_n hj)
  · exact ⟨zz_up_n hj, zz_up_n hj, zz_up_n hj⟩
theorem zP_w2_one {on mn : Nat → Nat} {W s k : Nat} {q : zMb} (h : ¬ on s = 0) : (zM_w2 on mn W s k q).1 (6561 * k + s) = 0 ∧ (zM_w2 on mn W s k q).2.1 (6561 * k + s) = 0 ∧ (zM_w2 on mn W s k q).2.2 (6561 * k + s) = 0 := by
  unfold zM_w2
  rw [if_neg h]
  exact ⟨zz_up_s, zz_up_s, zz_up_s⟩
theorem zP_co0 {wo to : Nat → Nat} {k s : Nat} : zP_co wo to k s (0, zz_up wo (6561 * k + s) 0, zz_up to (6561 * k + s) 0) := fun _ hj => ⟨zz_up_n hj, zz_up_n hj⟩
theorem zP_ci0 {mn wo to : Nat → Nat} {k s : Nat} {q : zMc} (h : q.1 = 0) : zP_ci mn wo to k s 0 q := Or.inl ⟨h, fun b hb => by omega⟩
/-- what a mixed set holds for a kind: its bit, its costs by its sides -/
def zP_mx (mn : Nat → Nat) (W s k : Nat) (q q' : zMb) : Prop := ∃ b0, b0 < W ∧ q'.1 (6561 * k + s) = b0 + 1 ∧ zM_dg s b0 = 2 ∧ q'.2.1 (6561 * k + s) = 1 + max (q.2.1 (6561 * k + (s - (2 - 0) * 3 ^ b0))) (q.2.1 (6561 * k + (s - (2 - 1) * 3 ^ b0))) ∧ q'.2.2 (6561 * k + s) = mn s + q.2.2 (6561 * k + (s - (2 - 0) * 3 ^ b0)) + q.2.2 (6561 * k + (s - (2 - 1) * 3 ^ b0)) ∧ (k = 2 → ∀ b, b0 < b → b < W → ¬ zM_dg s b = 2)
theorem zP_w2_mix {on mn : Nat → Nat} {W s k : Nat} {q : zMb} (hs : s < 6561) (h : on s = 0) (hf : ∃ b, b < W ∧ zM_dg s b = 2) : zP_mx mn W s k q (zM_w2 on mn W s k q) := by
  have a := zP_cia (mn := mn) (wo0 := q.2.1) (to0 := q.2.2) (k := k) hs W 0 (0, zz_up q.2.1 (6561 * k + s) 0, zz_up q.2.2 (6561 * k + s) 0) zP_co0 (zP_ci0 rfl)
  rw [Nat.zero_add] at a
  unfold zM_w2
  rw [if_pos h]
  rcases a with ⟨-, a⟩ | ⟨b0, a1, a2, a3, a4, a5, a6⟩
  · obtain ⟨b, b1, b2⟩ := hf
    exact absurd b2 (a b b1)
  · exact ⟨b0, a1, zz_up_s.trans a2, a3, a4, a5, a6⟩
/-- the class's weights of a set against the reference's -/
theorem zP_pk0 {on mn wo to : Nat → Nat} {W s fr : Nat} {q : zMb} (hW : W ≤ 8) (hs : s < 6561) (h : on s = 0) (hf : ∃ b, b < W ∧ zM_dg s b = 2) (hfr : ∀ b, b < 8 → (fr / 2 ^ b &&& 1 = 1 ↔ zM_dg s b = 2))
    (hz : ∀ b v, b < 8 → v ≤ 1 → zM_dg s b = 2 → wo (s - (2 - v) * 3 ^ b) / 2 ^ 3 = q.2.1 (6561 * 0 + (s - (2 - v) * 3 ^ b)) ∧ q.2.1 (6561 * 0 + (s - (2 - v) * 3 ^ b)) ≤ 8) :
    (zT_least wo to s fr 0 W (1048576, 1048576)).1 + 8 = (zM_w2 on mn W s 0 q).2.1 (6561 * 0 + s) * 8 + ((zM_w2 on mn W s 0 q).1 (6561 * 0 + s) - 1) := by
  have a := zP_p0 (mn := mn) (wo0 := q.2.1) (to0 := q.2.2) (wo := wo) (to := to) hs hfr hz W 0 (0, zz_up q.2.1 (6561 * 0 + s) 0, zz_up q.2.2 (6561 * 0 + s) 0) (1048576, 1048576) (by omega) zP_co0 (zP_ci0 rfl) rfl
  obtain ⟨b0, a1, a2, a3, a4, a5, a6⟩ := zP_w2_mix (mn := mn) (k := 0) (q := q) hs h hf
  rw [a2, a4]
  unfold zM_w2 at a2 a4
  rw [if_pos h] at a2 a4
  have a2 : (zM_ch mn 0 s 0 W (0, zz_up q.2.1 (6561 * 0 + s) 0, zz_up q.2.2 (6561 * 0 + s) 0)).1 = b0 + 1 := zz_up_s.symm.trans a2
  have a4 : (zM_ch mn 0 s 0 W (0, zz_up q.2.1 (6561 * 0 + s) 0, zz_up q.2.2 (6561 * 0 + s) 0)).2.1 (6561 * 0 + s) = _ := a4
  unfold zP_j0 at a
  rw [a, a2, if_neg (by omega), a4]
  omega
theorem zP_pk1 {on mn wo to : Nat → Nat} {W s fr : Nat} {q : zMb} (hW : W ≤ 8) (hs : s < 6561) (h : on s = 0) (hf : ∃ b, b < W ∧ zM_dg s b = 2) (hfr : ∀ b, b < 8 → (fr / 2 ^ b &&& 1 = 1 ↔ zM_dg s b = 2))
    (hz : ∀ b v, b < 8 → v ≤ 1 → zM_dg s b = 2 → to (s - (2 - v) * 3 ^ b) / 2 ^ 3 = q.2.2 (6561 * 1 + (s - (2 - v) * 3 ^ b)) ∧ q.2.2 (6561 * 1 + (s - (2 - v) * 3 ^ b)) ≤ 2048) :
    (zT_least wo to s fr 0 W (1048576, 1048576)).2 + mn s * 8 = (zM_w2 on mn W s 1 q).2.2 (6561 * 1 + s) * 8 + ((zM_w2 on mn W s 1 q).1 (6561 * 1 + s) - 1) := by
  have a := zP_p1 (mn := mn) (wo0 := q.2.1) (to0 := q.2.2) (wo := wo) (to := to) hs hfr hz W 0 (0, zz_up q.2.1 (6561 * 1 + s) 0, zz_up q.2.2 (6561 * 1 + s) 0) (1048576, 1048576) (by omega) zP_co0 (zP_ci0 rfl) rfl
  obtain ⟨b0, a1, a2, a3, a4, a5, a6⟩ := zP_w2_mix (mn := mn) (k := 1) (q := q) hs h hf
  rw [a2, a5]
  unfold zM_w2 at a2 a5
  rw [if_pos h] at a2 a5
  have a2 : (zM_ch mn 1 s 0 W (0, zz_up q.2.1 (6561 * 1 + s) 0, zz_up q.2.2 (6561 * 1 + s) 0)).1 = b0 + 1 := zz_up_s.symm.trans a2
  have a5 : (zM_ch mn 1 s 0 W (0, zz_up q.2.1 (6561 * 1 + s) 0, zz_up q.2.2 (6561 * 1 + s) 0)).2.2 (6561 * 1 + s) = _ := a5
  unfold zP_j1 at a
  rw [a, a2, if_neg (by omega), a5]
  omega
