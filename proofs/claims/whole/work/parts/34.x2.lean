/-! what a throw asks of the start: Throwable's statics, String constants, words on constructors -/
def zx_S (n d : String) (A : Nat → Prop) (U : State) : Prop := ∃ (c : ClassId) (k : Class) (i : Nat) (f : Field) (a : Nat) (cell : Cell) (v : Value), U.vm.findClass Bundle.tN = some c ∧ U.fieldFound? Bundle.tN n d = some (c, k, i, f) ∧ f.isStatic = true ∧ k.statics = some a ∧ U.heap[a]? = some cell ∧ cell.vm.isStatics = true ∧ cell.cls = c ∧ f.slot < cell.slots.size ∧ k.staticTypes[f.slot]? = some f.type ∧ cell.slots[f.slot]? = some v ∧ v.isRef = true ∧ ¬ A a
theorem zx_S.move {n d : String} {A B : Nat → Prop} {s U : State} (h : zx_S n d A s) (hvm : s.vm.Alike U.vm) (hq : ∀ a : Nat, a < s.heap.size → ¬ A a → U.heap[a]? = s.heap[a]?) (hAB : ∀ q, B q → A q) : zx_S n d B U := by
  obtain ⟨c, k, i, f, a, cell, v, h1, h2, h3, h4, h5, h6, h7, h8, h9, h10, h11, h12⟩ := h
  obtain ⟨k', hi', he⟩ := State.fieldFound?_setVm hvm h2
  exact ⟨c, k', i, f, a, cell, v, by rw [hvm.findClass]; exact h1, hi', h3, by rw [he]; exact h4, by rw [hq a (Array.getElem?_eq_some_iff.mp h5).1 h12]; exact h5, h6, h7, h8, by rw [he]; exact h9, h10, h11, fun z => h12 (hAB a z)⟩
theorem zx_S.lays {n d : String} {A : Nat → Prop} {U : State} {args : Array Value} (h : zx_S n d A U) : (Cond.laysStatic Bundle.tN n d).before args U = true := by
  obtain ⟨c, k, i, f, a, cell, v, h1, h2, h3, h4, h5, h6, h7, h8, h9, -⟩ := h
  exact Cond.laysStatic_of h1 h2 h3 h4 h5 h6 h7 h8 h9
theorem zx_S.isRef {n d : String} {A : Nat → Prop} {U : State} {args : Array Value} (h : zx_S n d A U) : (Cond.isRef (.static Bundle.tN n d)).before args U = true := by
  obtain ⟨c, k, i, f, a, cell, v, h1, h2, h3, h4, h5, h6, h7, h8, h9, h10, h11, -⟩ := h
  have he : (Term.static Bundle.tN n d).eval args U none [] U = some v := by
    simp [Term.eval, State.fieldNamed?, h2, h3, h4, h5, h6, h10]
  simp only [Cond.before, Cond.holds, Cond.value, he]
  cases v <;> simp [Value.isRef] at h11 ⊢
theorem zx_Sof {n d : String} {A : Nat → Prop} {s : State} {args : Array Value} (hl : (Cond.laysStatic Bundle.tN n d).before args s = true) (hr : (Cond.isRef (.static Bundle.tN n d)).before args s = true) (hA : ∀ a : Nat, a < s.heap.size → ¬ A a) : zx_S n d A s := by
  obtain ⟨c, k, i, f, a, cell, h1, h2, h3, h4, h5, h6, h7, h8, h9⟩ := Cond.laysStatic_spec hl
  obtain ⟨u, hu⟩ := Cond.staticRefV h2 h3 h4 h5 h6 hr
  exact ⟨c, k, i, f, a, cell, u.v, h1, h2, h3, h4, h5, h6, h7, h8, h9, hu, u.ok, hA a (Array.getElem?_eq_some_iff.mp h5).1⟩
def zx_mv : Cond → Bool
  | .declares _ => true
  | .castable _ _ => true
  | .not (.castable _ _) => true
  | _ => false
theorem zx_mv_ok {w : Cond} (hw : zx_mv w = true) {u U : State} {A A' : Array Value} (hvm : u.vm.Alike U.vm) (h : w.before A u = true) : w.before A' U = true := by
  match w, hw with
  | .declares x, _ =>
    rw [← Cond.declares_setVm hvm x] at h
    exact h
  | .castable a b, _ =>
    rw [← Cond.castable_setVm hvm a b] at h
    exact h
  | .not (.castable a b), _ => exact Cond.castAtom_setVm hvm (.not (.castable a b)) rfl h
def zx_iae : String := "java/lang/IllegalArgumentException"
def zx_uoe : String := "java/lang/UnsupportedOperationException"
def zx_ioe : String := "java/lang/IndexOutOfBoundsException"
def zx_ise : String := "java/lang/IllegalStateException"
def zx_nm : List String := ["java/lang/RuntimeException", "java/lang/Exception"]
def zx_ws : List Cond := [.declares (Bundle.initS "java/lang/RuntimeException"), .declares (Bundle.initS "java/lang/Exception"), .declares (Bundle.initS Bundle.tN), .castable zx_iae zx_iae, .castable zx_uoe zx_uoe, .castable zx_ioe zx_ioe, .castable zx_ise zx_ise]
def zx_str : List (Nat × String) := [(65, "mask or value"), (70, "length or flag"), (78, "no room for an encoding"), (94, "kind"), (99, "word or flags"), (107, "word"), (125, "node"), (145, "what"), (147, "place in the list"), (152, "kind or what"), (165, "no room for a word"), (170, "flags"), (174, "no word waits")]
def zx_X : (Nat → Prop) → State → Prop := fun A U => zx_S "UNASSIGNED_STACK" Bundle.steD A U ∧ zx_S "SUPPRESSED_SENTINEL" Bundle.listD A U ∧ (∀ w ∈ zx_ws, w.before #[] U = true) ∧ ∀ q ∈ zx_str, ∃ a, vk_R "DecodeTests" q.1 q.2 a U
theorem zx_ws_mv : ∀ w ∈ zx_ws, zx_mv w = true := by decide
theorem zx_blind : zz_blindX zx_X := fun A U g mk a h =>
  ⟨h.1.move (Vm.Alike.refl U.vm) (fun _ _ _ => rfl) (fun _ z => z), h.2.1.move (Vm.Alike.refl U.vm) (fun _ _ _ => rfl) (fun _ z => z), fun w hw => zx_mv_ok (zx_ws_mv w hw) (u := U) (Vm.Alike.refl U.vm) (h.2.2.1 w hw), fun q hq => by
    obtain ⟨z, hz⟩ := h.2.2.2 q hq
    exact ⟨z, vk_R.same (u := U) rfl hz⟩⟩
theorem zx_use {A B : Nat → Prop} {s U : State} {H : Heap} {locs : List Loc} (h : zx_X A s) (hS : va_S A s.heap H locs) (hU : U.heap = H) (hW : s.WarmedH U.vm) (hAB : ∀ q, B q → A q) : zx_X B U := by
  have hq : ∀ a : Nat, a < s.heap.size → ¬ A a → U.heap[a]? = s.heap[a]? := fun a h1 h2 => by rw [hU]; exact hS.2.1 a h1 h2
  exact ⟨h.1.move hW.alike hq hAB, h.2.1.move hW.alike hq hAB, fun w hw => zx_mv_ok (zx_ws_mv w hw) hW.alike (h.2.2.1 w hw), fun q hq => by
    obtain ⟨z, hz⟩ := h.2.2.2 q hq
    exact ⟨z, hz.warm hW⟩⟩
def zx_c4 : List Cond := [.laysStatic Bundle.tN "UNASSIGNED_STACK" Bundle.steD, .laysStatic Bundle.tN "SUPPRESSED_SENTINEL" Bundle.listD, .isRef (.static Bundle.tN "UNASSIGNED_STACK" Bundle.steD), .isRef (.static Bundle.tN "SUPPRESSED_SENTINEL" Bundle.listD)]
theorem zx_warm0 (s : State) : s.WarmedH s.vm := ⟨rfl, rfl, fun d k h => ⟨k, h, rfl, rfl, fun _ => Or.inl rfl, Or.inl ⟨rfl, rfl⟩⟩⟩
theorem zx_atoms {L : List Cond} (hL : L.all (fun w => decide (w ∈ zz_T) || (decide (w ∈ zx_ws) || decide (w ∈ zx_c4))) = true) {args : Array Value} {s : State} {A : Nat → Prop} {H : Heap} {locs : List Loc} (hT : ∀ w ∈ zz_T, w.before args s = true) (hX : zx_X A s) (hS : va_S A s.heap H locs) :
    ∀ s' : State, s'.vm = s.vm → s'.heap = H → ∀ w ∈ L, w.before args s' = true := by
  intro s' hv hh w hw
  have hW : s.WarmedH s'.vm := by rw [hv]; exact zx_warm0 s
  have hX' := zx_use hX hS hh hW (fun _ z => z)
  have h := List.all_eq_true.mp hL w hw
  simp only [Bool.or_eq_true, decide_eq_true_eq] at h
  rcases h with h | h | h
  · exact word_at hW (good_of_word (List.mem_filter.mp h).2) (hT w h)
  · exact zx_mv_ok (zx_ws_mv w h) (Vm.Alike.refl s'.vm) (hX'.2.2.1 w h)
  · simp only [zx_c4, List.mem_cons, List.not_mem_nil, or_false] at h
    rcases h with rfl | rfl | rfl | rfl
    · exact hX'.1.lays
    · exact hX'.2.1.lays
    · exact hX'.1.isRef
    · exact hX'.2.1.isRef
theorem zx_L_iae : (Bundle.ownAtoms "DecodeTests" 67 zx_iae zx_nm).all (fun w => decide (w ∈ zz_T) || (decide (w ∈ zx_ws) || decide (w ∈ zx_c4))) = true := by decide +kernel
theorem zx_L_uoe : (Bundle.ownAtoms "DecodeTests" 80 zx_uoe zx_nm).all (fun w => decide (w ∈ zz_T) || (decide (w ∈ zx_ws) || decide (w ∈ zx_c4))) = true := by decide +kernel
theorem zx_L_ioe : (Bundle.ownAtoms "DecodeTests" 127 zx_ioe zx_nm).all (fun w => decide (w ∈ zz_T) || (decide (w ∈ zx_ws) || decide (w ∈ zx_c4))) = true := by decide +kernel
theorem zx_L_ise : (Bundle.ownAtoms "DecodeTests" 176 zx_ise zx_nm).all (fun w => decide (w ∈ zz_T) || (decide (w ∈ zx_ws) || decide (w ∈ zx_c4))) = true := by decide +kernel
theorem zx_fit : Bundle.fit zx_iae = true ∧ Bundle.fit zx_uoe = true ∧ Bundle.fit zx_ioe = true ∧ Bundle.fit zx_ise = true ∧ ∀ n ∈ zx_nm, Bundle.fit n = true := by decide +kernel
theorem zx_ii : (Cond.instantiable zx_iae 6 ∈ zz_T ∧ Cond.initialized zx_iae ∈ zz_T) ∧ (Cond.instantiable zx_uoe 6 ∈ zz_T ∧ Cond.initialized zx_uoe ∈ zz_T) ∧ (Cond.instantiable zx_ioe 6 ∈ zz_T ∧ Cond.initialized zx_ioe ∈ zz_T) ∧ (Cond.instantiable zx_ise 6 ∈ zz_T ∧ Cond.initialized zx_ise ∈ zz_T) := by decide +kernel
theorem zx_tblok : (∀ w ∈ zx_ws, w ∈ lw_tbl) ∧ (∀ q ∈ zx_str, Cond.stringRef "DecodeTests" q.1 q.2 ∈ lw_tbl) := by decide +kernel
