/-! what the class's methods do, as functions of numbers: nothing of the machine -/
-- encodings: masks mk, values vl, lengths ln, conditions cd (0 none, f + 1 the flag f), lists lz (sets of numbers), un (those without condition)
def zE_fit (mk vl : Nat → Nat) (w k : Nat) : Bool := decide (w &&& mk k = vl k)
def zE_open (cd : Nat → Nat) (fl k : Nat) : Bool := decide (cd k = 0) || decide (fl / 2 ^ (cd k - 1) &&& 1 = 1)
def zE_ok (ww n un : Nat) (mk vl ln cd lz : Nat → Nat) : Prop := ww ≤ 256 ∧ n ≤ 14 ∧ un < 16384 ∧ (∀ j, mk j < 256) ∧ (∀ j, vl j < 256) ∧ (∀ j, ln j < 4) ∧ (∀ j, cd j ≤ 8) ∧ ∀ j, lz j < 16384
/-- the first number from i on, of r, with P: 0 none, k + 1 for k -/
def zz_first (P : Nat → Bool) : Nat → Nat → Nat
  | _, 0 => 0
  | i, r + 1 => if P i then i + 1 else zz_first P (i + 1) r
theorem zz_first_end {P : Nat → Bool} {i n : Nat} (h : n ≤ i) : zz_first P i (n - i) = 0 := by
  rw [Nat.sub_eq_zero_of_le h]; rfl
theorem zz_first_yes {P : Nat → Bool} {i n : Nat} (h : i < n) (hp : P i = true) : zz_first P i (n - i) = i + 1 := by
  rw [show n - i = (n - (i + 1)) + 1 by omega]; simp [zz_first, hp]
theorem zz_first_no {P : Nat → Bool} {i n : Nat} (h : i < n) (hp : P i = false) : zz_first P (i + 1) (n - (i + 1)) = zz_first P i (n - i) := by
  rw [show n - i = (n - (i + 1)) + 1 by omega]; simp [zz_first, hp]
theorem zz_first_le {P : Nat → Bool} : ∀ (r i : Nat), zz_first P i r ≤ i + r
  | 0, i => by simp [zz_first]
  | r + 1, i => by
    simp only [zz_first]
    split
    · omega
    · have := zz_first_le (P := P) r (i + 1)
      omega
/-- is there one with P among i .. i + r - 1 -/
def zz_any (P : Nat → Bool) : Nat → Nat → Bool
  | _, 0 => false
  | i, r + 1 => if P i then true else zz_any P (i + 1) r
theorem zz_any_end {P : Nat → Bool} {i n : Nat} (h : n ≤ i) : zz_any P i (n - i) = false := by
  rw [Nat.sub_eq_zero_of_le h]; rfl
theorem zz_any_yes {P : Nat → Bool} {i n : Nat} (h : i < n) (hp : P i = true) : zz_any P i (n - i) = true := by
  rw [show n - i = (n - (i + 1)) + 1 by omega]; simp [zz_any, hp]
theorem zz_any_no {P : Nat → Bool} {i n : Nat} (h : i < n) (hp : P i = false) : zz_any P (i + 1) (n - (i + 1)) = zz_any P i (n - i) := by
  rw [show n - i = (n - (i + 1)) + 1 by omega]; simp [zz_any, hp]
def zE_tried (mk vl cd : Nat → Nat) (n w fl : Nat) : Nat := zz_first (fun k => zE_fit mk vl w k && zE_open cd fl k) 0 n
def zE_ofList (cd : Nat → Nat) (n li fl : Nat) : Nat := zz_first (fun k => decide (li / 2 ^ k &&& 1 = 1) && zE_open cd fl k) 0 n
/-- the member of the list li at a place, from number i on, of r, with b before it -/
def zE_mem (li pl : Nat) : Nat → Nat → Nat → Nat
  | _, _, 0 => 0
  | i, b, r + 1 => if li / 2 ^ i &&& 1 = 1 then (if b = pl then i + 1 else zE_mem li pl (i + 1) (b + 1) r) else zE_mem li pl (i + 1) b r
def zE_common (mk vl : Nat → Nat) (a b : Nat) : Bool := decide (((vl a ^^^ vl b) &&& mk a) &&& mk b = 0)
def zE_all (mk : Nat → Nat) (a b : Nat) : Bool := decide (mk a &&& (mk b ^^^ 4294967295) = 0)
def zE_x (mk vl : Nat → Nat) (a b : Nat) : Bool := zE_common mk vl a b && (!zE_all mk a b && !zE_all mk b a)
def zE_cross (mk vl : Nat → Nat) (n : Nat) : Bool := zz_any (fun a => zz_any (zE_x mk vl a) (a + 1) (n - (a + 1))) 0 n
/-- the lists with number k added, words i .. -/
def zE_lists (mk vl : Nat → Nat) (un k : Nat) : Nat → Nat → (Nat → Nat) → Nat → Nat
  | _, 0, lz => lz
  | i, r + 1, lz => zE_lists mk vl un k (i + 1) r (if zE_fit mk vl i k && decide (lz i &&& un = 0) then zz_up lz i (lz i ||| 1 * 2 ^ k) else lz)
-- tables over groups
def zT_choice (W : Nat) (cm wo to : Nat → Nat) (kind g d : Nat) : Nat := if W ≤ d ∨ ¬ cm g = 0 then 0 else if kind = 0 then (wo g &&& 7) + 1 else if kind = 1 then (to g &&& 7) + 1 else W - 1 - d + 1
def zT_deep (ch : Nat → Nat → Nat) : Nat → Nat → Nat → Nat
  | 0, _, _ => 0
  | f + 1, g, d => if ch g d = 0 then 0 else 1 + max (zT_deep ch f (g - (2 - 0) * 3 ^ (ch g d - 1)) (d + 1)) (zT_deep ch f (g - (2 - 1) * 3 ^ (ch g d - 1)) (d + 1))
def zT_total (ch : Nat → Nat → Nat) (W : Nat) : Nat → Nat → Nat → Nat
  | 0, _, _ => 0
  | f + 1, g, d => if ch g d = 0 then 0 else 1 * 2 ^ (W - d) + zT_total ch W f (g - (2 - 0) * 3 ^ (ch g d - 1)) (d + 1) + zT_total ch W f (g - (2 - 1) * 3 ^ (ch g d - 1)) (d + 1)
-- kept answers: words kw (0 none), flags kf, answers ka (0 NONE), kn rows
def zK_ok (kw kf ka : Nat → Nat) (kn : Nat) : Prop := kn ≤ 16 ∧ (∀ j, kw j ≤ 256) ∧ (∀ j, kf j < 256) ∧ ∀ j, ka j ≤ 14
def zK_holds (kw kf : Nat → Nat) (w fl : Nat) : Bool := decide (kw (w &&& 15) = w + 1) && decide (kf (w &&& 15) = fl)
def zz_clr (f : Nat → Nat) (n : Nat) : Nat → Nat := fun j => if j < n then 0 else f j
theorem zz_clr_0 (f : Nat → Nat) : zz_clr f 0 = f := by funext j; simp [zz_clr]
theorem zz_clr_up {f : Nat → Nat} {i : Nat} : zz_up (zz_clr f i) i 0 = zz_clr f (i + 1) := by
  funext j
  by_cases h : j = i
  · simp [zz_up, zz_clr, h]
  · by_cases h2 : j < i
    · simp [zz_up, zz_clr, h, h2, Nat.lt_succ_of_lt h2]
    · simp [zz_up, zz_clr, h, h2, show ¬ j < i + 1 by omega]
theorem zz_2le {a b : Nat} (h : b ≤ 8) : a * 2 ^ b ≤ a * 256 := Nat.mul_le_mul_left a (Nat.pow_le_pow_right (by decide) h)
/-- the list that both sides of a group have by its lowest free bit, or none -/
def zT_cs (cm : Nat → Nat) (g fr : Nat) : Nat := if cm (g - (2 - 0) * 3 ^ zz_ntz 8 fr) = cm (g - (2 - 1) * 3 ^ zz_ntz 8 fr) then cm (g - (2 - 0) * 3 ^ zz_ntz 8 fr) else 0
/-- the least weights of a group, over its free bits from b on, of r -/
def zT_least (wo to : Nat → Nat) (g fr : Nat) : Nat → Nat → Nat × Nat → Nat × Nat
  | _, 0, q => q
  | b, r + 1, q => zT_least wo to g fr (b + 1) r (if fr / 2 ^ b &&& 1 = 1 then
      (min q.1 (max (wo (g - (2 - 0) * 3 ^ b) / 2 ^ 3) (wo (g - (2 - 1) * 3 ^ b) / 2 ^ 3) * 2 ^ 3 + b),
       min q.2 ((to (g - (2 - 0) * 3 ^ b) / 2 ^ 3 + to (g - (2 - 1) * 3 ^ b) / 2 ^ 3) * 2 ^ 3 + b)) else q)
def zT_weigh (W : Nat) (cm wo to : Nat → Nat) (g fr : Nat) : (Nat → Nat) × (Nat → Nat) :=
  if cm g = 0 then
    (zz_up (zz_up wo g 0) g ((zT_least (zz_up wo g 0) (zz_up to g 0) g fr 0 W (1048576, 1048576)).1 + 8),
     zz_up (zz_up to g 0) g ((zT_least (zz_up wo g 0) (zz_up to g 0) g fr 0 W (1048576, 1048576)).2 + (1 * 2 ^ zz_bc 14 fr) * 2 ^ 3))
  else (zz_up wo g 0, zz_up to g 0)
/-- the counting through the groups: what is free, what is one -/
def zT_next (q : Nat × Nat) : Nat × Nat :=
  if q.2 &&& ((q.1 ^^^ 4294967295) &&& (q.1 + 1)) = 0 then (q.1 &&& (4294967296 - ((q.1 ^^^ 4294967295) &&& (q.1 + 1))), q.2 ||| ((q.1 ^^^ 4294967295) &&& (q.1 + 1)))
  else ((q.1 &&& (4294967296 - ((q.1 ^^^ 4294967295) &&& (q.1 + 1)))) ||| ((q.1 ^^^ 4294967295) &&& (q.1 + 1)), q.2 ^^^ ((q.1 ^^^ 4294967295) &&& (q.1 + 1)))
def zT_at : Nat → Nat × Nat
  | 0 => (0, 0)
  | i + 1 => zT_next (zT_at i)
abbrev zTt : Type := (Nat → Nat) × (Nat → Nat) × (Nat → Nat)
def zT_one (W : Nat) (lz : Nat → Nat) (i : Nat) (q : zTt) : zTt :=
  let cm := zz_up q.1 i (if (zT_at i).1 = 0 then lz (zT_at i).2 + 1 else zT_cs q.1 i (zT_at i).1)
  (cm, zT_weigh W cm q.2.1 q.2.2 i (zT_at i).1)
def zT_fill (W : Nat) (lz : Nat → Nat) : Nat → zTt → zTt
  | 0, q => q
  | i + 1, q => zT_one W lz i (zT_fill W lz i q)
-- the tree: tested tb, sides zr and on (0 none, k + 1 the node k), depths dp, lists li, how many nodes, leaves
abbrev zRt : Type := (Nat → Nat) × (Nat → Nat) × (Nat → Nat) × (Nat → Nat) × (Nat → Nat) × Nat × Nat
def zR_down (ch : Nat → Nat → Nat) (g d : Nat) (q : zRt) : zRt := (zz_up q.1 q.2.2.2.2.2.1 (ch g d), q.2.1, q.2.2.1, zz_up q.2.2.2.1 q.2.2.2.2.2.1 d, zz_up q.2.2.2.2.1 q.2.2.2.2.2.1 0, q.2.2.2.2.2.1 + 1, q.2.2.2.2.2.2)
def zR_mid (k : Nat) (q : zRt) : zRt := (q.1, zz_up q.2.1 k (k + 1 + 1), q.2.2.1, q.2.2.2.1, q.2.2.2.2.1, q.2.2.2.2.2.1, q.2.2.2.2.2.2)
def zR_end (k n1 : Nat) (q : zRt) : zRt := (q.1, q.2.1, zz_up q.2.2.1 k (n1 + 1), q.2.2.2.1, q.2.2.2.2.1, q.2.2.2.2.2.1, q.2.2.2.2.2.2)
def zR_put (cm : Nat → Nat) (g d : Nat) (q : zRt) : zRt := (zz_up q.1 q.2.2.2.2.2.1 0, zz_up q.2.1 q.2.2.2.2.2.1 0, zz_up q.2.2.1 q.2.2.2.2.2.1 0, zz_up q.2.2.2.1 q.2.2.2.2.2.1 d, zz_up q.2.2.2.2.1 q.2.2.2.2.2.1 (cm g - 1), q.2.2.2.2.2.1 + 1, q.2.2.2.2.2.2 + 1)
def zR_grow (ch : Nat → Nat → Nat) (cm : Nat → Nat) : Nat → Nat → Nat → zRt → zRt
  | 0, _, _, q => q
  | f + 1, g, d, q => if ch g d = 0 then zR_put cm g d q
    else zR_end q.2.2.2.2.2.1 (zR_grow ch cm f (g - (2 - 0) * 3 ^ (ch g d - 1)) (d + 1) (zR_down ch g d q)).2.2.2.2.2.1
      (zR_grow ch cm f (g - (2 - 1) * 3 ^ (ch g d - 1)) (d + 1) (zR_mid q.2.2.2.2.2.1 (zR_grow ch cm f (g - (2 - 0) * 3 ^ (ch g d - 1)) (d + 1) (zR_down ch g d q))))
theorem zR_grow_l {ch : Nat → Nat → Nat} {cm : Nat → Nat} {f g d : Nat} {q : zRt} (h : ch g d = 0) : zR_grow ch cm (f + 1) g d q = zR_put cm g d q := by rw [zR_grow, if_pos h]
theorem zR_grow_n {ch : Nat → Nat → Nat} {cm : Nat → Nat} {f g d : Nat} {q : zRt} (h : ¬ ch g d = 0) : zR_grow ch cm (f + 1) g d q = zR_end q.2.2.2.2.2.1 (zR_grow ch cm f (g - (2 - 0) * 3 ^ (ch g d - 1)) (d + 1) (zR_down ch g d q)).2.2.2.2.2.1
      (zR_grow ch cm f (g - (2 - 1) * 3 ^ (ch g d - 1)) (d + 1) (zR_mid q.2.2.2.2.2.1 (zR_grow ch cm f (g - (2 - 0) * 3 ^ (ch g d - 1)) (d + 1) (zR_down ch g d q)))) := by rw [zR_grow, if_neg h]
def zR_cnt (ch : Nat → Nat → Nat) : Nat → Nat → Nat → Nat
  | 0, _, _ => 0
  | f + 1, g, d => if ch g d = 0 then 1 else 1 + zR_cnt ch f (g - (2 - 0) * 3 ^ (ch g d - 1)) (d + 1) + zR_cnt ch f (g - (2 - 1) * 3 ^ (ch g d - 1)) (d + 1)
theorem zR_cnt_n {ch : Nat → Nat → Nat} {f g d : Nat} (h : ¬ ch g d = 0) : zR_cnt ch (f + 1) g d = 1 + zR_cnt ch f (g - (2 - 0) * 3 ^ (ch g d - 1)) (d + 1) + zR_cnt ch f (g - (2 - 1) * 3 ^ (ch g d - 1)) (d + 1) := by rw [zR_cnt, if_neg h]
theorem zR_cnt_l {ch : Nat → Nat → Nat} {f g d : Nat} (h : ch g d = 0) : zR_cnt ch (f + 1) g d = 1 := by rw [zR_cnt, if_pos h]
theorem zR_cnt_pos {ch : Nat → Nat → Nat} {f g d : Nat} : 1 ≤ zR_cnt ch (f + 1) g d := by
  by_cases h : ch g d = 0
  · rw [zR_cnt_l h]; exact Nat.le_refl 1
  · rw [zR_cnt_n h]; omega
theorem zR_grow_rn {ch : Nat → Nat → Nat} {cm : Nat → Nat} : ∀ (f g d : Nat) (q : zRt), (zR_grow ch cm f g d q).2.2.2.2.2.1 = q.2.2.2.2.2.1 + zR_cnt ch f g d
  | 0, g, d, q => rfl
  | f + 1, g, d, q => by
    by_cases h : ch g d = 0
    · rw [zR_grow_l h, zR_cnt_l h]; rfl
    · rw [zR_grow_n h, zR_cnt_n h]
      show (zR_grow ch cm f (g - (2 - 1) * 3 ^ (ch g d - 1)) (d + 1) (zR_mid q.2.2.2.2.2.1 (zR_grow ch cm f (g - (2 - 0) * 3 ^ (ch g d - 1)) (d + 1) (zR_down ch g d q)))).2.2.2.2.2.1 = _
      rw [zR_grow_rn f]
      show (zR_grow ch cm f (g - (2 - 0) * 3 ^ (ch g d - 1)) (d + 1) (zR_down ch g d q)).2.2.2.2.2.1 + _ = _
      rw [zR_grow_rn f]
      show q.2.2.2.2.2.1 + 1 + _ + _ = _
      omega
def zR_leaf (tb zr on : Nat → Nat) (w : Nat) : Nat → Nat → Nat
  | 0, k => k
  | f + 1, k => if tb k = 0 then k else zR_leaf tb zr on w f ((if w / 2 ^ (tb k - 1) &&& 1 = 0 then zr k else on k) - 1)
/-- which groups, with how many tests above, may come: each has its sides, where it tests -/
def zT_V (W G : Nat) (cm wo to : Nat → Nat) (kind : Nat) (V : Nat → Nat → Prop) : Prop := ∀ g d, V g d → d ≤ W ∧ g < G ∧ (¬ zT_choice W cm wo to kind g d = 0 →
  zT_choice W cm wo to kind g d - 1 < W ∧ d < W ∧ (2 - 0) * 3 ^ (zT_choice W cm wo to kind g d - 1) ≤ g ∧ V (g - (2 - 0) * 3 ^ (zT_choice W cm wo to kind g d - 1)) (d + 1) ∧ V (g - (2 - 1) * 3 ^ (zT_choice W cm wo to kind g d - 1)) (d + 1))
theorem zT_V_d {W G : Nat} {cm wo to : Nat → Nat} {kind : Nat} {V : Nat → Nat → Prop} (h : zT_V W G cm wo to kind V) {g d : Nat} (hg : V g d) : d ≤ W := (h g d hg).1
theorem zT_V_c {W G : Nat} {cm wo to : Nat → Nat} {kind : Nat} {V : Nat → Nat → Prop} (h : zT_V W G cm wo to kind V) {g d : Nat} (hg : V g d) : zT_choice W cm wo to kind g d ≤ W := by
  by_cases q : zT_choice W cm wo to kind g d = 0
  · omega
  · have := ((h g d hg).2.2 q).1
    omega
theorem zT_least_end {wo to : Nat → Nat} {g fr b n : Nat} {q : Nat × Nat} (h : n ≤ b) : zT_least wo to g fr b (n - b) q = q := by rw [Nat.sub_eq_zero_of_le h]; rfl
theorem zT_least_in {wo to : Nat → Nat} {g fr b n : Nat} {q : Nat × Nat} (h : b < n) (hf : fr / 2 ^ b &&& 1 = 1) : zT_least wo to g fr b (n - b) q = zT_least wo to g fr (b + 1) (n - (b + 1)) (min q.1 (max (wo (g - (2 - 0) * 3 ^ b) / 2 ^ 3) (wo (g - (2 - 1) * 3 ^ b) / 2 ^ 3) * 2 ^ 3 + b), min q.2 ((to (g - (2 - 0) * 3 ^ b) / 2 ^ 3 + to (g - (2 - 1) * 3 ^ b) / 2 ^ 3) * 2 ^ 3 + b)) := by
  rw [show n - b = (n - (b + 1)) + 1 by omega, zT_least, if_pos hf]
theorem zT_least_out {wo to : Nat → Nat} {g fr b n : Nat} {q : Nat × Nat} (h : b < n) (hf : ¬ fr / 2 ^ b &&& 1 = 1) : zT_least wo to g fr b (n - b) q = zT_least wo to g fr (b + 1) (n - (b + 1)) q := by
  rw [show n - b = (n - (b + 1)) + 1 by omega, zT_least, if_neg hf]
theorem zz_bc_le : ∀ (f x : Nat), zz_bc f x ≤ f
  | 0, _ => Nat.le_refl 0
  | f + 1, x => by
    have h := zz_bc_le f (x / 2)
    have h2 : x % 2 < 2 := Nat.mod_lt _ (by decide)
    simp only [zz_bc]
    omega
theorem zz_ntz_le : ∀ (f x : Nat), zz_ntz f x ≤ f
  | 0, _ => Nat.le_refl 0
  | f + 1, x => by
    have h := zz_ntz_le f (x / 2)
    simp only [zz_ntz]
    split <;> omega
theorem zz_bc8 : ∀ x, x < 256 → zz_bc 14 x ≤ 8 := by decide +kernel
theorem zT_deep_le {ch : Nat → Nat → Nat} : ∀ (f g d : Nat), zT_deep ch f g d ≤ f
  | 0, _, _ => Nat.le_refl 0
  | f + 1, g, d => by
    rw [zT_deep]
    split
    · omega
    · have h1 := zT_deep_le (ch := ch) f (g - (2 - 0) * 3 ^ (ch g d - 1)) (d + 1)
      have h2 := zT_deep_le (ch := ch) f (g - (2 - 1) * 3 ^ (ch g d - 1)) (d + 1)
      omega
