/-! all sets: the class's tables against the reference's -/
def zP_r (W : Nat) (lz al : Nat → Nat) (s : Nat) (q : zTt) (p : zMf) : Prop :=
  p.2.1 s = 2 ^ zP_nf s 8 ∧ (q.1 s = 0 ↔ p.1 s = 0) ∧ (¬ p.1 s = 0 → p.1 s - 1 < 2 ^ W ∧ lz (p.1 s - 1) + 1 = q.1 s ∧ al (p.1 s - 1) = p.1 s - 1) ∧
  (¬ p.1 s = 0 → (q.2.1 s = 0 ∧ q.2.2 s = 0) ∧ ∀ k, k < 3 → p.2.2.1 (6561 * k + s) = 0 ∧ p.2.2.2.1 (6561 * k + s) = 0 ∧ p.2.2.2.2 (6561 * k + s) = 0) ∧
  (p.1 s = 0 → (q.2.1 s = p.2.2.2.1 (6561 * 0 + s) * 8 + (p.2.2.1 (6561 * 0 + s) - 1) ∧ q.2.2 s = p.2.2.2.2 (6561 * 1 + s) * 8 + (p.2.2.1 (6561 * 1 + s) - 1)) ∧ ∀ k, k < 3 → zP_mx p.2.1 W s k p.2.2 p.2.2) ∧
  ∀ k, k < 3 → p.2.2.2.1 (6561 * k + s) ≤ zP_nf s 8 ∧ p.2.2.2.2 (6561 * k + s) ≤ zP_nf s 8 * 2 ^ zP_nf s 8
def zP_R (W : Nat) (lz al : Nat → Nat) (i : Nat) (q : zTt) (p : zMf) : Prop := ∀ s, s < i → zP_r W lz al s q p
theorem zP_2048 {n : Nat} (h : n ≤ 8) : n * 2 ^ n ≤ 2048 := by
  have a : 2 ^ n ≤ 256 := Nat.pow_le_pow_right (n := 2) (by decide) h
  have := Nat.mul_le_mul h a
  omega
theorem zP_r_w {W : Nat} {lz al : Nat → Nat} {s : Nat} {q : zTt} {p : zMf} (hW : W ≤ 8) (h : zP_r W lz al s q p) : q.2.1 s / 2 ^ 3 = p.2.2.2.1 (6561 * 0 + s) ∧ p.2.2.2.1 (6561 * 0 + s) ≤ 8 := by
  obtain ⟨-, -, -, h4, h5, h6⟩ := h
  refine ⟨?_, Nat.le_trans (h6 0 (by decide)).1 (zP_nf_le 8)⟩
  by_cases e : p.1 s = 0
  · obtain ⟨b0, a1, a2, -⟩ := (h5 e).2 0 (by decide)
    rw [(h5 e).1.1, a2]; omega
  · rw [(h4 e).1.1, ((h4 e).2 0 (by decide)).2.1]
theorem zP_r_t {W : Nat} {lz al : Nat → Nat} {s : Nat} {q : zTt} {p : zMf} (hW : W ≤ 8) (h : zP_r W lz al s q p) : q.2.2 s / 2 ^ 3 = p.2.2.2.2 (6561 * 1 + s) ∧ p.2.2.2.2 (6561 * 1 + s) ≤ 2048 := by
  obtain ⟨-, -, -, h4, h5, h6⟩ := h
  refine ⟨?_, Nat.le_trans (h6 1 (by decide)).2 (zP_2048 (zP_nf_le 8))⟩
  by_cases e : p.1 s = 0
  · obtain ⟨b0, a1, a2, -⟩ := (h5 e).2 1 (by decide)
    rw [(h5 e).1.2, a2]; omega
  · rw [(h4 e).1.2, ((h4 e).2 1 (by decide)).2.2]
theorem zP_side_lt {s b v : Nat} (h : zM_dg s b = 2) (hv : v ≤ 1) : s - (2 - v) * 3 ^ b < s := by
  have a := zM_dg_side h
  have b2 := zz_3pos b
  rcases (show v = 0 ∨ v = 1 by omega) with rfl | rfl <;> omega
theorem zP_fr_bit {s b : Nat} (hb : b < 8) : (zP_dm 2 s 8 / 2 ^ b &&& 1 = 1 ↔ zM_dg s b = 2) := by
  rw [zP_dm_bit]; exact ⟨fun z => z.2, fun z => ⟨hb, z⟩⟩
/-- the lists of sets against each other -/
def zP_al (W : Nat) (lz al : Nat → Nat) : Prop := (∀ x, x < 2 ^ W → al x ≤ x ∧ lz (al x) = lz x) ∧ ∀ x y, x < 2 ^ W → y < 2 ^ W → lz x = lz y → al x = al y
theorem zP_al_of {W : Nat} {lz li ls al : Nat → Nat} (h : zP_li (2 ^ W) lz li ls al) : zP_al W lz al := by
  refine ⟨fun x hx => ⟨(h x hx).2.1, (h x hx).2.2.1⟩, fun x y hx hy e => ?_⟩
  obtain ⟨-, a1, a2, a3⟩ := h x hx
  obtain ⟨-, b1, b2, b3⟩ := h y hy
  have c1 : ¬ al x < al y := fun z => b3 _ z (by rw [a2, e])
  have c2 : ¬ al y < al x := fun z => a3 _ z (by rw [b2, e])
  omega
theorem zP_cmon {W : Nat} {lz al : Nat → Nat} {s t : Nat} {q : zTt} {p : zMf} (hA : zP_al W lz al) (hs : zP_r W lz al s q p) (ht : zP_r W lz al t q p) : (q.1 s = q.1 t) ↔ (p.1 s = p.1 t) := by
  obtain ⟨-, a2, a3, -⟩ := hs
  obtain ⟨-, b2, b3, -⟩ := ht
  constructor
  · intro h
    by_cases e : p.1 s = 0
    · rw [e]
      exact (b2.mp (h.symm.trans (a2.mpr e))).symm
    · have e2 : ¬ p.1 t = 0 := fun z => e (a2.mp (h.trans (b2.mpr z)))
      obtain ⟨c1, c2, c3⟩ := a3 e
      obtain ⟨d1, d2, d3⟩ := b3 e2
      have := hA.2 _ _ c1 d1 (by omega)
      omega
  · intro h
    by_cases e : p.1 s = 0
    · rw [a2.mpr e, b2.mpr (h.symm.trans e)]
    · have e2 : ¬ p.1 t = 0 := fun z => e (h.trans z)
      rw [← (a3 e).2.1, ← (b3 e2).2.1, h]
/-- what is worked out stays: places of other sets -/
theorem zP_wk_ne {on mn : Nat → Nat} {W s k t : Nat} {q : zMb} (hs : s < 6561) (ht : t < s) : (zM_wk on mn W s q).1 (6561 * k + t) = q.1 (6561 * k + t) ∧ (zM_wk on mn W s q).2.1 (6561 * k + t) = q.2.1 (6561 * k + t) ∧ (zM_wk on mn W s q).2.2 (6561 * k + t) = q.2.2 (6561 * k + t) := by
  unfold zM_wk
  have a := zP_w2_ne (on := on) (mn := mn) (W := W) (s := s) (k := 0) (j := 6561 * k + t) (q := q) (by omega)
  have b := zP_w2_ne (on := on) (mn := mn) (W := W) (s := s) (k := 1) (j := 6561 * k + t) (q := zM_w2 on mn W s 0 q) (by omega)
  have c := zP_w2_ne (on := on) (mn := mn) (W := W) (s := s) (k := 2) (j := 6561 * k + t) (q := zM_w2 on mn W s 1 (zM_w2 on mn W s 0 q)) (by omega)
  exact ⟨c.1.trans (b.1.trans a.1), c.2.1.trans (b.2.1.trans a.2.1), c.2.2.trans (b.2.2.trans a.2.2)⟩
/-- the state before kind k is worked out -/
def zP_bk (on mn : Nat → Nat) (W s k : Nat) (q : zMb) : zMb := if k = 0 then q else if k = 1 then zM_w2 on mn W s 0 q else zM_w2 on mn W s 1 (zM_w2 on mn W s 0 q)
theorem zP_bk_ne {on mn : Nat → Nat} {W s k k' t : Nat} {q : zMb} (hs : s < 6561) (ht : t < s) : (zP_bk on mn W s k' q).1 (6561 * k + t) = q.1 (6561 * k + t) ∧ (zP_bk on mn W s k' q).2.1 (6561 * k + t) = q.2.1 (6561 * k + t) ∧ (zP_bk on mn W s k' q).2.2 (6561 * k + t) = q.2.2 (6561 * k + t) := by
  have a := zP_w2_ne (on := on) (mn := mn) (W := W) (s := s) (k := 0) (j := 6561 * k + t) (q := q) (by omega)
  have b := zP_w2_ne (on := on) (mn := mn) (W := W) (s := s) (k := 1) (j := 6561 * k + t) (q := zM_w2 on mn W s 0 q) (by omega)
  unfold zP_bk
  split
  · exact ⟨rfl, rfl, rfl⟩
  · split
    · exact a
    · exact ⟨b.1.trans a.1, b.2.1.trans a.2.1, b.2.2.trans a.2.2⟩
theorem zP_wk_at {on mn : Nat → Nat} {W s k : Nat} {q : zMb} (hs : s < 6561) (hk : k < 3) : (zM_wk on mn W s q).1 (6561 * k + s) = (zM_w2 on mn W s k (zP_bk on mn W s k q)).1 (6561 * k + s) ∧ (zM_wk on mn W s q).2.1 (6561 * k + s) = (zM_w2 on mn W s k (zP_bk on mn W s k q)).2.1 (6561 * k + s) ∧ (zM_wk on mn W s q).2.2 (6561 * k + s) = (zM_w2 on mn W s k (zP_bk on mn W s k q)).2.2 (6561 * k + s) := by
  unfold zM_wk
  rcases (show k = 0 ∨ k = 1 ∨ k = 2 by omega) with rfl | rfl | rfl
  · have b := zP_w2_ne (on := on) (mn := mn) (W := W) (s := s) (k := 1) (j := 6561 * 0 + s) (q := zM_w2 on mn W s 0 q) (by omega)
    have c := zP_w2_ne (on := on) (mn := mn) (W := W) (s := s) (k := 2) (j := 6561 * 0 + s) (q := zM_w2 on mn W s 1 (zM_w2 on mn W s 0 q)) (by omega)
    exact ⟨c.1.trans b.1, c.2.1.trans b.2.1, c.2.2.trans b.2.2⟩
  · exact zP_w2_ne (on := on) (mn := mn) (W := W) (s := s) (k := 2) (j := 6561 * 1 + s) (q := zM_w2 on mn W s 1 (zM_w2 on mn W s 0 q)) (by omega)
  · exact ⟨rfl, rfl, rfl⟩
theorem zP_wk_mx {on mn : Nat → Nat} {W s k : Nat} {q : zMb} (hs : s < 6561) (hk : k < 3) (h : on s = 0) (hf : ∃ b, b < W ∧ zM_dg s b = 2) : zP_mx mn W s k (zM_wk on mn W s q) (zM_wk on mn W s q) := by
  obtain ⟨b0, a1, a2, a3, a4, a5, a6⟩ := zP_w2_mix (on := on) (mn := mn) (W := W) (k := k) (q := zP_bk on mn W s k q) hs h hf
  have w := zP_wk_at (on := on) (mn := mn) (W := W) (q := q) hs hk
  have l0 := zP_wk_ne (on := on) (mn := mn) (W := W) (k := k) (q := q) hs (zP_side_lt (v := 0) a3 (by decide))
  have l1 := zP_wk_ne (on := on) (mn := mn) (W := W) (k := k) (q := q) hs (zP_side_lt (v := 1) a3 (by decide))
  have m0 := zP_bk_ne (on := on) (mn := mn) (W := W) (k := k) (k' := k) (q := q) hs (zP_side_lt (v := 0) a3 (by decide))
  have m1 := zP_bk_ne (on := on) (mn := mn) (W := W) (k := k) (k' := k) (q := q) hs (zP_side_lt (v := 1) a3 (by decide))
  refine ⟨b0, a1, w.1.trans a2, a3, ?_, ?_, a6⟩
  · rw [w.2.1, a4, m0.2.1, m1.2.1, l0.2.1, l1.2.1]
  · rw [w.2.2, a5, m0.2.2, m1.2.2, l0.2.2, l1.2.2]
theorem zP_2p {n : Nat} : 2 ^ n + 2 ^ n = 2 ^ (n + 1) := by rw [Nat.pow_succ]; omega
theorem zP_r_frame {W : Nat} {lz al : Nat → Nat} {i s : Nat} {q : zTt} {p : zMf} (hW : W ≤ 8) (hi : i < 3 ^ W) (h : s < i) (hr : zP_r W lz al s q p) : zP_r W lz al s (zT_one W lz i q) (zM_f1 W i al p) := by
  have hi9 : i < 6561 := Nat.lt_of_lt_of_le hi (zP_3W hW)
  have hne : s ≠ i := by omega
  have c1 : (zT_one W lz i q).1 s = q.1 s := zz_up_n hne
  have c2 : (zT_one W lz i q).2.1 s = q.2.1 s := by
    show (zT_weigh W (zT_one W lz i q).1 q.2.1 q.2.2 i (zT_at i).1).1 s = _
    unfold zT_weigh
    split
    · exact (zz_up_n hne).trans (zz_up_n hne)
    · exact zz_up_n hne
  have c3 : (zT_one W lz i q).2.2 s = q.2.2 s := by
    show (zT_weigh W (zT_one W lz i q).1 q.2.1 q.2.2 i (zT_at i).1).2 s = _
    unfold zT_weigh
    split
    · exact (zz_up_n hne).trans (zz_up_n hne)
    · exact zz_up_n hne
  have d1 : (zM_f1 W i al p).1 s = p.1 s := by
    show (zM_w1 W i al p.1 p.2.1).1 s = _
    unfold zM_w1
    split <;> exact zz_up_n hne
  have d2 : (zM_f1 W i al p).2.1 s = p.2.1 s := by
    show (zM_w1 W i al p.1 p.2.1).2 s = _
    unfold zM_w1
    split <;> exact zz_up_n hne
  have d3 : ∀ k t, t < i → (zM_f1 W i al p).2.2.1 (6561 * k + t) = p.2.2.1 (6561 * k + t) ∧ (zM_f1 W i al p).2.2.2.1 (6561 * k + t) = p.2.2.2.1 (6561 * k + t) ∧ (zM_f1 W i al p).2.2.2.2 (6561 * k + t) = p.2.2.2.2 (6561 * k + t) := fun k t ht => zP_wk_ne hi9 ht
  obtain ⟨h1, h2, h3, h4, h5, h6⟩ := hr
  unfold zP_r
  rw [c1, c2, c3, d1, d2, (d3 0 s h).2.1, (d3 0 s h).1, (d3 1 s h).1, (d3 1 s h).2.2]
  refine ⟨h1, h2, h3, fun e => ⟨(h4 e).1, fun k hk => ?_⟩, fun e => ⟨(h5 e).1, fun k hk => ?_⟩, fun k hk => ?_⟩
  · rw [(d3 k s h).1, (d3 k s h).2.1, (d3 k s h).2.2]; exact (h4 e).2 k hk
  · obtain ⟨b0, a1, a2, a3, a4, a5, a6⟩ := (h5 e).2 k hk
    have l0 := d3 k _ (Nat.lt_trans (zP_side_lt (v := 0) a3 (by decide)) h)
    have l1 := d3 k _ (Nat.lt_trans (zP_side_lt (v := 1) a3 (by decide)) h)
    refine ⟨b0, a1, (d3 k s h).1.trans a2, a3, ?_, ?_, a6⟩
    · rw [(d3 k s h).2.1, a4, l0.2.1, l1.2.1]
    · rw [(d3 k s h).2.2, a5, l0.2.2, l1.2.2, d2]
  · rw [(d3 k s h).2.1, (d3 k s h).2.2]; exact h6 k hk
theorem zP_w1_yes {W s : Nat} {al on mn : Nat → Nat} (h : ∃ b, b < W ∧ zM_dg s b = 2) : zM_w1 W s al on mn = (zz_up on s (if on (s - (2 - 0) * 3 ^ zM_ff s) = on (s - (2 - 1) * 3 ^ zM_ff s) then on (s - (2 - 0) * 3 ^ zM_ff s) else 0), zz_up mn s (mn (s - (2 - 0) * 3 ^ zM_ff s) + mn (s - (2 - 1) * 3 ^ zM_ff s))) := if_pos (zP_any.mpr h)
theorem zP_w1_no {W s : Nat} {al on mn : Nat → Nat} (h : ¬ ∃ b, b < W ∧ zM_dg s b = 2) : zM_w1 W s al on mn = (zz_up on s (al (zM_ow s 0 W 0) + 1), zz_up mn s 1) := if_neg (fun z => h (zP_any.mp z))
theorem zP_r_new {W : Nat} {lz al : Nat → Nat} {i : Nat} {q : zTt} {p : zMf} (hW : W ≤ 8) (hi : i < 3 ^ W) (hA : zP_al W lz al) (hR : zP_R W lz al i q p) : zP_r W lz al i (zT_one W lz i q) (zM_f1 W i al p) := by
  have hi9 : i < 6561 := Nat.lt_of_lt_of_le hi (zP_3W hW)
  have at_ := zP_at i hi9
  have e1 : (zT_one W lz i q).1 i = if (zT_at i).1 = 0 then lz (zT_at i).2 + 1 else zT_cs q.1 i (zT_at i).1 := zz_up_s
  rw [at_] at e1
  by_cases hf : ∃ b, b < W ∧ zM_dg i b = 2
  · have fr0 : ¬ zP_dm 2 i 8 = 0 := fun z => (zP_fr_any hW hi).mp z hf
    have ntz : zz_ntz 8 (zP_dm 2 i 8) = zM_ff i := (zP_ntz i hi9).resolve_left fr0
    obtain ⟨bf, bf1, bf2⟩ := hf
    have ff := zM_ff_at (show bf < 9 by omega) bf2
    have ff8 : zM_ff i < 8 := by omega
    have L := hR _ (zP_side_lt (v := 0) ff.2 (by decide))
    have Rr := hR _ (zP_side_lt (v := 1) ff.2 (by decide))
    have hf : ∃ b, b < W ∧ zM_dg i b = 2 := ⟨bf, bf1, bf2⟩
    have d1 : (zM_f1 W i al p).1 i = if p.1 (i - (2 - 0) * 3 ^ zM_ff i) = p.1 (i - (2 - 1) * 3 ^ zM_ff i) then p.1 (i - (2 - 0) * 3 ^ zM_ff i) else 0 := by
      show (zM_w1 W i al p.1 p.2.1).1 i = _
      rw [zP_w1_yes hf]; exact zz_up_s
    have d2 : (zM_f1 W i al p).2.1 i = 2 ^ zP_nf i 8 := by
      show (zM_w1 W i al p.1 p.2.1).2 i = _
      rw [zP_w1_yes hf]
      refine zz_up_s.trans ?_
      have n0 := zP_nf_s (s := i) (b := zM_ff i) (k := 2 - 0) (by decide) (by decide) ff8 ff.2
      have n1 := zP_nf_s (s := i) (b := zM_ff i) (k := 2 - 1) (by decide) (by decide) ff8 ff.2
      rw [L.1, Rr.1, n0, show zP_nf (i - (2 - 1) * 3 ^ zM_ff i) 8 = zP_nf (i - (2 - 0) * 3 ^ zM_ff i) 8 by omega, zP_2p]
    have cs : (zT_one W lz i q).1 i = if q.1 (i - (2 - 0) * 3 ^ zM_ff i) = q.1 (i - (2 - 1) * 3 ^ zM_ff i) then q.1 (i - (2 - 0) * 3 ^ zM_ff i) else 0 := by
      rw [e1, if_neg fr0]
      unfold zT_cs
      rw [ntz]
    have key : ((zT_one W lz i q).1 i = 0 ↔ (zM_f1 W i al p).1 i = 0) ∧ (¬ (zM_f1 W i al p).1 i = 0 → (zM_f1 W i al p).1 i - 1 < 2 ^ W ∧ lz ((zM_f1 W i al p).1 i - 1) + 1 = (zT_one W lz i q).1 i ∧ al ((zM_f1 W i al p).1 i - 1) = (zM_f1 W i al p).1 i - 1) := by
      have eq := zP_cmon hA L Rr
      rw [cs, d1]
      by_cases z : p.1 (i - (2 - 0) * 3 ^ zM_ff i) = p.1 (i - (2 - 1) * 3 ^ zM_ff i)
      · rw [if_pos z, if_pos (eq.mpr z)]
        exact ⟨L.2.1, L.2.2.1⟩
      · rw [if_neg z, if_neg (fun w => z (eq.mp w))]
        exact ⟨⟨fun _ => rfl, fun _ => rfl⟩, fun w => absurd rfl w⟩
    have hz0 : ∀ b v, b < 8 → v ≤ 1 → zM_dg i b = 2 → zz_up q.2.1 i 0 (i - (2 - v) * 3 ^ b) / 2 ^ 3 = p.2.2.2.1 (6561 * 0 + (i - (2 - v) * 3 ^ b)) ∧ p.2.2.2.1 (6561 * 0 + (i - (2 - v) * 3 ^ b)) ≤ 8 := by
      intro b v hb hv hd
      have lt := zP_side_lt (v := v) hd hv
      rw [zz_up_n (by omega)]
      exact zP_r_w hW (hR _ lt)
    have hz1 : ∀ b v, b < 8 → v ≤ 1 → zM_dg i b = 2 → zz_up q.2.2 i 0 (i - (2 - v) * 3 ^ b) / 2 ^ 3 = p.2.2.2.2 (6561 * 1 + (i - (2 - v) * 3 ^ b)) ∧ p.2.2.2.2 (6561 * 1 + (i - (2 - v) * 3 ^ b)) ≤ 2048 := by
      intro b v hb hv hd
      have lt := zP_side_lt (v := v) hd hv
      rw [zz_up_n (by omega)]
      exact zP_r_t hW (hR _ lt)
    have hmx : (zM_f1 W i al p).1 i = 0 → ∀ k, k < 3 → zP_mx (zM_f1 W i al p).2.1 W i k (zM_f1 W i al p).2.2 (zM_f1 W i al p).2.2 := fun e k hk => zP_wk_mx hi9 hk e hf
    refine ⟨d2, key.1, key.2, fun e => ⟨?_, fun k hk => ?_⟩, fun e => ⟨?_, hmx e⟩, fun k hk => ?_⟩
    · have ec : ¬ (zT_one W lz i q).1 i = 0 := fun z => e (key.1.mp z)
      constructor
      · show (zT_weigh W (zT_one W lz i q).1 q.2.1 q.2.2 i (zT_at i).1).1 i = 0
        unfold zT_weigh
        rw [if_neg ec]; exact zz_up_s
      · show (zT_weigh W (zT_one W lz i q).1 q.2.1 q.2.2 i (zT_at i).1).2 i = 0
        unfold zT_weigh
        rw [if_neg ec]; exact zz_up_s
    · have w := zP_wk_at (on := (zM_f1 W i al p).1) (mn := (zM_f1 W i al p).2.1) (W := W) (q := p.2.2) hi9 hk
      have o := zP_w2_one (on := (zM_f1 W i al p).1) (mn := (zM_f1 W i al p).2.1) (W := W) (k := k) (q := zP_bk (zM_f1 W i al p).1 (zM_f1 W i al p).2.1 W i k p.2.2) e
      exact ⟨w.1.trans o.1, w.2.1.trans o.2.1, w.2.2.trans o.2.2⟩
    · have ec : (zT_one W lz i q).1 i = 0 := key.1.mpr e
      have w0 := zP_wk_at (on := (zM_f1 W i al p).1) (mn := (zM_f1 W i al p).2.1) (W := W) (k := 0) (q := p.2.2) hi9 (by decide)
      have w1 := zP_wk_at (on := (zM_f1 W i al p).1) (mn := (zM_f1 W i al p).2.1) (W := W) (k := 1) (q := p.2.2) hi9 (by decide)
      constructor
      · show (zT_weigh W (zT_one W lz i q).1 q.2.1 q.2.2 i (zT_at i).1).1 i = (zM_wk (zM_f1 W i al p).1 (zM_f1 W i al p).2.1 W i p.2.2).2.1 (6561 * 0 + i) * 8 + ((zM_wk (zM_f1 W i al p).1 (zM_f1 W i al p).2.1 W i p.2.2).1 (6561 * 0 + i) - 1)
        unfold zT_weigh
        rw [if_pos ec, w0.1, w0.2.1, at_]
        exact zz_up_s.trans (zP_pk0 (on := (zM_f1 W i al p).1) (mn := (zM_f1 W i al p).2.1) (q := p.2.2) hW hi9 e hf (fun b hb => zP_fr_bit hb) hz0)
      · show (zT_weigh W (zT_one W lz i q).1 q.2.1 q.2.2 i (zT_at i).1).2 i = (zM_wk (zM_f1 W i al p).1 (zM_f1 W i al p).2.1 W i p.2.2).2.2 (6561 * 1 + i) * 8 + ((zM_wk (zM_f1 W i al p).1 (zM_f1 W i al p).2.1 W i p.2.2).1 (6561 * 1 + i) - 1)
        unfold zT_weigh
        rw [if_pos ec, w1.1, w1.2.2, at_]
        refine zz_up_s.trans ?_
        have pk := zP_pk1 (on := (zM_f1 W i al p).1) (mn := (zM_f1 W i al p).2.1) (wo := zz_up q.2.1 i 0) (to := zz_up q.2.2 i 0) (fr := zP_dm 2 i 8) (q := zP_bk (zM_f1 W i al p).1 (zM_f1 W i al p).2.1 W i 1 p.2.2) hW hi9 e hf (fun b hb => zP_fr_bit hb) (fun b v hb hv hd => by
          rw [(zP_bk_ne (k := 1) (k' := 1) hi9 (zP_side_lt (v := v) hd hv)).2.2]
          exact hz1 b v hb hv hd)
        rw [← pk, d2, ← zP_bcnf i hi9, Nat.one_mul]
    · by_cases e : (zM_f1 W i al p).1 i = 0
      · obtain ⟨b0, a1, a2, a3, a4, a5, a6⟩ := hmx e k hk
        have lt0 := zP_side_lt (v := 0) a3 (by decide)
        have lt1 := zP_side_lt (v := 1) a3 (by decide)
        have l0 := zP_wk_ne (on := (zM_f1 W i al p).1) (mn := (zM_f1 W i al p).2.1) (W := W) (k := k) (q := p.2.2) hi9 lt0
        have l1 := zP_wk_ne (on := (zM_f1 W i al p).1) (mn := (zM_f1 W i al p).2.1) (W := W) (k := k) (q := p.2.2) hi9 lt1
        have n0 := zP_nf_s (s := i) (b := b0) (k := 2 - 0) (by decide) (by decide) (by omega) a3
        have n1 := zP_nf_s (s := i) (b := b0) (k := 2 - 1) (by decide) (by decide) (by omega) a3
        have g0 := (hR _ lt0).2.2.2.2.2 k hk
        have g1 := (hR _ lt1).2.2.2.2.2 k hk
        have l01 : (zM_f1 W i al p).2.2.2.1 (6561 * k + (i - (2 - 0) * 3 ^ b0)) = _ := l0.2.1
        have l02 : (zM_f1 W i al p).2.2.2.2 (6561 * k + (i - (2 - 0) * 3 ^ b0)) = _ := l0.2.2
        have l11 : (zM_f1 W i al p).2.2.2.1 (6561 * k + (i - (2 - 1) * 3 ^ b0)) = _ := l1.2.1
        have l12 : (zM_f1 W i al p).2.2.2.2 (6561 * k + (i - (2 - 1) * 3 ^ b0)) = _ := l1.2.2
        rw [l01, l11] at a4
        rw [l02, l12, d2] at a5
        rw [a4, a5]
        rw [show zP_nf (i - (2 - 1) * 3 ^ b0) 8 = zP_nf (i - (2 - 0) * 3 ^ b0) 8 by omega] at g1
        rw [n0]
        generalize zP_nf (i - (2 - 0) * 3 ^ b0) 8 = c at *
        have e2 : (c + 1) * 2 ^ (c + 1) = 2 ^ (c + 1) + c * 2 ^ c + c * 2 ^ c := by
          rw [← zP_2p, Nat.add_mul, Nat.mul_add]; omega
        rw [e2]
        exact ⟨by have := g0.1; have := g1.1; omega, by have := g0.2; have := g1.2; omega⟩
      · have w := zP_wk_at (on := (zM_f1 W i al p).1) (mn := (zM_f1 W i al p).2.1) (W := W) (q := p.2.2) hi9 hk
        have o := zP_w2_one (on := (zM_f1 W i al p).1) (mn := (zM_f1 W i al p).2.1) (W := W) (k := k) (q := zP_bk (zM_f1 W i al p).1 (zM_f1 W i al p).2.1 W i k p.2.2) e
        have w1 : (zM_f1 W i al p).2.2.2.1 (6561 * k + i) = 0 := w.2.1.trans o.2.1
        have w2 : (zM_f1 W i al p).2.2.2.2 (6561 * k + i) = 0 := w.2.2.trans o.2.2
        rw [w1, w2]
        exact ⟨Nat.zero_le _, Nat.zero_le _⟩
  · have fr0 : zP_dm 2 i 8 = 0 := (zP_fr_any hW hi).mpr hf
    have ow : zM_ow i 0 W 0 = zP_dm 1 i 8 := by rw [zP_ow_all hW hi]; exact (zP_ow8 i hi9).resolve_left (fun z => z fr0)
    have wl : zP_dm 1 i 8 < 2 ^ W := by rw [zP_dm_W (by decide) hi 8 hW]; exact zP_dm_lt W
    have nf : zP_nf i 8 = 0 := zP_nf_0 (fun b hb z => hf ⟨b, by
      refine Decidable.byContradiction fun y => ?_
      have := zP_dg_W hi (show W ≤ b by omega)
      omega, z⟩) 8 (Nat.le_refl 8)
    have d1 : (zM_f1 W i al p).1 i = al (zP_dm 1 i 8) + 1 := by
      show (zM_w1 W i al p.1 p.2.1).1 i = _
      rw [zP_w1_no hf, ow]; exact zz_up_s
    have d2 : (zM_f1 W i al p).2.1 i = 1 := by
      show (zM_w1 W i al p.1 p.2.1).2 i = _
      rw [zP_w1_no hf]; exact zz_up_s
    have c1 : (zT_one W lz i q).1 i = lz (zP_dm 1 i 8) + 1 := by rw [e1, if_pos fr0]
    have e : ¬ (zM_f1 W i al p).1 i = 0 := by rw [d1]; omega
    have ec : ¬ (zT_one W lz i q).1 i = 0 := by rw [c1]; omega
    have c2 : (zT_one W lz i q).2.1 i = 0 := by
      show (zT_weigh W (zT_one W lz i q).1 q.2.1 q.2.2 i (zT_at i).1).1 i = 0
      unfold zT_weigh
      rw [if_neg ec]; exact zz_up_s
    have c3 : (zT_one W lz i q).2.2 i = 0 := by
      show (zT_weigh W (zT_one W lz i q).1 q.2.1 q.2.2 i (zT_at i).1).2 i = 0
      unfold zT_weigh
      rw [if_neg ec]; exact zz_up_s
    have k0 : ∀ k, k < 3 → (zM_f1 W i al p).2.2.1 (6561 * k + i) = 0 ∧ (zM_f1 W i al p).2.2.2.1 (6561 * k + i) = 0 ∧ (zM_f1 W i al p).2.2.2.2 (6561 * k + i) = 0 := by
      intro k hk
      have w := zP_wk_at (on := (zM_f1 W i al p).1) (mn := (zM_f1 W i al p).2.1) (W := W) (q := p.2.2) hi9 hk
      have o := zP_w2_one (on := (zM_f1 W i al p).1) (mn := (zM_f1 W i al p).2.1) (W := W) (k := k) (q := zP_bk (zM_f1 W i al p).1 (zM_f1 W i al p).2.1 W i k p.2.2) e
      exact ⟨w.1.trans o.1, w.2.1.trans o.2.1, w.2.2.trans o.2.2⟩
    refine ⟨by rw [d2, nf], ⟨fun z => absurd z ec, fun z => absurd z e⟩, fun _ => ?_, fun _ => ⟨⟨c2, c3⟩, k0⟩, fun z => absurd z e, fun k hk => by rw [(k0 k hk).2.1, (k0 k hk).2.2]; exact ⟨Nat.zero_le _, Nat.zero_le _⟩⟩
    rw [d1, c1, Nat.add_sub_cancel]
    have a1 := hA.1 _ wl
    exact ⟨by omega, by rw [a1.2], hA.2 _ _ (by omega) wl a1.2⟩
theorem zP_R_all {W : Nat} {lz al : Nat → Nat} {q : zTt} {p : zMf} (hW : W ≤ 8) (hA : zP_al W lz al) : ∀ i, i ≤ 3 ^ W → zP_R W lz al i (zT_fill W lz i q) (zM_fill W al i p)
  | 0, _ => fun s hs => by omega
  | i + 1, hi => fun s hs => by
    have ih := zP_R_all (q := q) (p := p) hW hA i (by omega)
    rw [zT_fill, zM_fill]
    by_cases e : s = i
    · rw [e]; exact zP_r_new hW (by omega) hA ih
    · exact zP_r_frame hW (by omega) (by omega) (ih s (by omega))
theorem zP_fill_bnd {W : Nat} {lz : Nat → Nat} {q : zTt} (hlz : ∀ j, lz j < 16384) (hW : W ≤ 8) (h : zT_bnd q) : ∀ i, i ≤ 3 ^ W → zT_bnd (zT_fill W lz i q)
  | 0, _ => h
  | i + 1, hi => by
    have ih := zP_fill_bnd hlz hW h i (by omega)
    rw [zT_fill]
    generalize zT_fill W lz i q = r at ih
    have hi9 : i < 6561 := Nat.lt_of_lt_of_le (by omega) (zP_3W hW)
    have l1 : ∀ (wo to : Nat → Nat) (g fr r b : Nat) (l : Nat × Nat), l.1 ≤ 1048576 → l.2 ≤ 1048576 → (zT_least wo to g fr b r l).1 ≤ 1048576 ∧ (zT_least wo to g fr b r l).2 ≤ 1048576 := by
      intro wo to g fr r
      induction r with
      | zero => intro b l a c; exact ⟨a, c⟩
      | succ r ih =>
        intro b l a c
        rw [zT_least]
        split
        · exact ih _ _ (Nat.le_trans (Nat.min_le_left _ _) a) (Nat.le_trans (Nat.min_le_left _ _) c)
        · exact ih _ _ a c
    have bc : zz_bc 14 (zT_at i).1 ≤ 8 := zz_bc8 _ (by rw [zP_at i hi9]; exact zP_dm_lt 8)
    have p2 := zz_2le (a := 1) bc
    refine ⟨zz_up_le ih.1 ?_, ?_, ?_⟩
    · split
      · have := hlz (zT_at i).2; omega
      · unfold zT_cs
        split
        · exact ih.1 _
        · omega
    · show ∀ j, (zT_weigh W (zT_one W lz i r).1 r.2.1 r.2.2 i (zT_at i).1).1 j < 2097152
      unfold zT_weigh
      split
      · have := (l1 (zz_up r.2.1 i 0) (zz_up r.2.2 i 0) i (zT_at i).1 W 0 (1048576, 1048576) (by decide) (by decide)).1
        exact zz_up_lt (zz_up_lt ih.2.1 (by decide)) (by omega)
      · exact zz_up_lt ih.2.1 (by decide)
    · show ∀ j, (zT_weigh W (zT_one W lz i r).1 r.2.1 r.2.2 i (zT_at i).1).2 j < 2097152
      unfold zT_weigh
      split
      · have := (l1 (zz_up r.2.1 i 0) (zz_up r.2.2 i 0) i (zT_at i).1 W 0 (1048576, 1048576) (by decide) (by decide)).2
        exact zz_up_lt (zz_up_lt ih.2.2 (by decide)) (by omega)
      · exact zz_up_lt ih.2.2 (by decide)
theorem zP_fill_on {W : Nat} {al : Nat → Nat} {p : zMf} (hal : ∀ j, al j < 256) (h : ∀ j, p.1 j ≤ 256) : ∀ i, ∀ j, (zM_fill W al i p).1 j ≤ 256
  | 0 => h
  | i + 1 => by
    have ih := zP_fill_on (W := W) hal h i
    rw [zM_fill]
    show ∀ j, (zM_w1 W i al _ _).1 j ≤ 256
    unfold zM_w1
    split
    · refine zz_up_le ih ?_
      split
      · exact ih _
      · omega
    · refine zz_up_le ih ?_
      have := hal (zM_ow i 0 W 0)
      omega
theorem zP_fv {W : Nat} {lz al : Nat → Nat} {q : zTt} {p : zMf} (hW : W ≤ 8) (hA : zP_al W lz al) (hal : ∀ j, al j < 256) (h : ∀ j, p.1 j ≤ 256) {i : Nat} (hi : i < 3 ^ W) : zM_fv W al i (zM_fill W al i p) := by
  have hi9 : i < 6561 := Nat.lt_of_lt_of_le hi (zP_3W hW)
  have R := zP_R_all (q := q) (p := p) hW hA i (by omega)
  have N := zP_R_all (q := q) (p := p) hW hA (i + 1) hi i (by omega)
  have on1 := zP_fill_on (W := W) hal h (i + 1) i
  rw [zT_fill, zM_fill] at N
  rw [zM_fill] at on1
  refine ⟨zP_fill_on hal h i, ?_, ?_, on1, fun k hk b hb hd => ?_⟩
  · intro h0
    have hf : ¬ ∃ b, b < W ∧ zM_dg i b = 2 := fun z => by rw [zP_any.mpr z] at h0; exact absurd h0 (by decide)
    rw [zP_ow_all hW hi, (zP_ow8 i hi9).resolve_left (fun z => z ((zP_fr_any hW hi).mpr hf))]
    exact zP_dm_lt 8
  · have e : (zM_w1 W i al (zM_fill W al i p).1 (zM_fill W al i p).2.1).2 i = 2 ^ zP_nf i 8 := N.1
    rw [e]
    exact Nat.pow_le_pow_right (n := 2) (by decide) (zP_nf_le 8)
  · have g0 := (R _ (zP_side_lt (v := 0) hd (by decide))).2.2.2.2.2 k hk
    have g1 := (R _ (zP_side_lt (v := 1) hd (by decide))).2.2.2.2.2 k hk
    exact ⟨Nat.le_trans g0.1 (zP_nf_le 8), Nat.le_trans g1.1 (zP_nf_le 8), Nat.le_trans g0.2 (zP_2048 (zP_nf_le 8)), Nat.le_trans g1.2 (zP_2048 (zP_nf_le 8))⟩
