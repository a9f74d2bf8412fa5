/-! ===== THE PURE MACHINE: a method's run told over lists of cells; 'Sem' is its meaning over the kit's W; an instruction is a transformer with a soundness row ===== -/
def pm_ws : List Cond := lw_tbl.filter goodWord
def pm_nest : Cond → Bool
  | .fieldLinkNest _ _ _ _ _ _ => true
  | .methodLinkNest _ _ _ _ => true
  | _ => false
def pm_nw : List Cond := tables_1.filter pm_nest
/-- the surroundings: launch, classes, array classes, addresses (0 the script, 1 the String, 2 its bytes, 3 a formatter, k + 4 the cell k), the script, the formatter -/
abbrev pm_E : Type := Launch × va_G × (Nat → ClassId) × (Nat → Nat) × Nat × (Nat → Int32) × Value
abbrev pm_St : Type := List (Option Value) × List Value × List va_E × Nat × Nat
abbrev pm_Q : Type := Option Value → List va_E → Prop
abbrev pm_Op : Type := (pm_St → Prop) → (Nat → pm_St → Prop) → (Nat → List Value → List va_E → pm_Q → Prop) → (pm_St → Prop) → pm_Q → pm_St → Prop
abbrev pm_ad (E : pm_E) : Nat → Nat := E.2.2.2.1
abbrev pm_tc (E : pm_E) : Nat → ClassId := E.2.2.1
abbrev pm_L (E : pm_E) : Nat := E.2.2.2.2.1
abbrev pm_xs (E : pm_E) : Nat → Int32 := E.2.2.2.2.2.1
abbrev pm_fm (E : pm_E) : Value := E.2.2.2.2.2.2
def pm_v (E : pm_E) : Value → Value
  | .ref a => if a = 3 then pm_fm E else .ref (pm_ad E a)
  | v => v
def pm_c (E : pm_E) : va_E → va_E
  | .inl (t, n, .inr (.inr (.inr (.inr f)))) => .inl (pm_tc E t, n, .inr (.inr (.inr (.inr (fun j => (f j).map (pm_ad E))))))
  | .inl (t, a) => .inl (pm_tc E t, a)
  | .inr (ci, fs) => .inr (ci, fs.map (pm_v E))
def pm_w (E : pm_E) : Nat → List va_E → va_W
  | _, [] => []
  | k, e :: h => (pm_ad E (k + 4), pm_c E e) :: pm_w E (k + 1) h
theorem pm_w_get (E : pm_E) : ∀ (h : List va_E) (k i : Nat), (pm_w E k h)[i]? = (h[i]?).map (fun e => (pm_ad E (k + i + 4), pm_c E e))
  | [], k, i => by simp [pm_w]
  | e :: h, k, 0 => by simp [pm_w]
  | e :: h, k, i + 1 => by
    rw [pm_w, List.getElem?_cons_succ, List.getElem?_cons_succ, pm_w_get E h (k + 1) i, show k + 1 + i = k + (i + 1) by omega]
theorem pm_w_set (E : pm_E) : ∀ (h : List va_E) (k i : Nat) (x : va_E), pm_w E k (h.set i x) = (pm_w E k h).set i (pm_ad E (k + i + 4), pm_c E x)
  | [], k, i, x => by simp [pm_w]
  | e :: h, k, 0, x => by simp [pm_w]
  | e :: h, k, i + 1, x => by
    rw [List.set_cons_succ, pm_w, pm_w, List.set_cons_succ, pm_w_set E h (k + 1) i x, show k + 1 + i = k + (i + 1) by omega]
theorem pm_w_app (E : pm_E) : ∀ (h : List va_E) (k : Nat) (x : va_E), pm_w E k (h ++ [x]) = pm_w E k h ++ [(pm_ad E (k + h.length + 4), pm_c E x)]
  | [], k, x => by simp [pm_w]
  | e :: h, k, x => by
    rw [List.cons_append, pm_w, pm_w, pm_w_app E h (k + 1) x, List.cons_append, List.length_cons, show k + 1 + h.length = k + (h.length + 1) by omega]
theorem pm_v_cat (E : pm_E) (hf : (pm_fm E).category = 1) (v : Value) : (pm_v E v).category = v.category := by
  cases v <;> simp only [pm_v]
  split
  · rw [hf]; rfl
  · rfl
-- the locals
def pl_get : List (Option Value) → Nat → Option Value
  | [], _ => none
  | o :: _, 0 => o
  | _ :: l, n + 1 => pl_get l n
def pl_cut : Option Value → Option Value
  | some (.long _) => none
  | some (.double _) => none
  | o => o
def pl_set1 : List (Option Value) → Nat → Value → List (Option Value)
  | [], _, _ => []
  | _ :: l, 0, v => some v :: l
  | o :: l, 1, v => pl_cut o :: pl_set1 l 0 v
  | o :: l, n + 2, v => o :: pl_set1 l (n + 1) v
def pl_set2 : List (Option Value) → Nat → Value → List (Option Value)
  | [], _, _ => []
  | [_], 0, _ => [none]
  | _ :: _ :: l, 0, v => some v :: none :: l
  | o :: l, 1, v => pl_cut o :: pl_set2 l 0 v
  | o :: l, n + 2, v => o :: pl_set2 l (n + 1) v
def pl_f : List Value → List (Option Value)
  | [] => []
  | .long x :: vs => some (.long x) :: none :: pl_f vs
  | .double x :: vs => some (.double x) :: none :: pl_f vs
  | v :: vs => some v :: pl_f vs
def pl_pad : List (Option Value) → Nat → List (Option Value)
  | l, 0 => l
  | [], n + 1 => none :: pl_pad [] n
  | o :: l, n + 1 => o :: pl_pad l n
def pl_entry (n : Nat) (as : List Value) : List (Option Value) := pl_pad (pl_f as) n
def pl_has (E : pm_E) (la : Array Slot) (nL : Nat) (ls : List (Option Value)) : Prop := la.size = nL ∧ lv_wf la ∧ ∀ (i : Nat) (v : Value), pl_get ls i = some v → la[i]? = some (.val (pm_v E v))
theorem pl_get_lt : ∀ (ls : List (Option Value)) (i : Nat) (v : Value), pl_get ls i = some v → i < ls.length
  | [], i, v, h => by simp [pl_get] at h
  | o :: l, 0, v, _ => by simp
  | o :: l, i + 1, v, h => by
    have := pl_get_lt l i v (by simpa [pl_get] using h)
    simp; omega
theorem pl_cut_get {o : Option Value} {v : Value} (h : pl_cut o = some v) : o = some v ∧ ¬ v.category = 2 := by
  unfold pl_cut at h
  split at h
  · cases h
  · cases h
  · rename_i h1 h2
    subst h
    refine ⟨rfl, ?_⟩
    cases v <;> simp [Value.category] <;> first | exact h1 _ rfl | exact h2 _ rfl
theorem pl_set1_get : ∀ (ls : List (Option Value)) (i : Nat) (v : Value) (j : Nat) (w : Value), pl_get (pl_set1 ls i v) j = some w → (j = i ∧ w = v) ∨ (j ≠ i ∧ pl_get ls j = some w ∧ ¬ (j + 1 = i ∧ w.category = 2))
  | [], i, v, j, w, h => by simp [pl_set1, pl_get] at h
  | o :: l, 0, v, 0, w, h => by
    left; simp [pl_set1, pl_get] at h; exact ⟨rfl, h.symm⟩
  | o :: l, 0, v, j + 1, w, h => by
    right; simp [pl_set1, pl_get] at h ⊢; exact h
  | o :: l, 1, v, 0, w, h => by
    right
    simp only [pl_set1, pl_get] at h
    obtain ⟨h1, h2⟩ := pl_cut_get h
    exact ⟨by omega, by simpa [pl_get] using h1, fun q => h2 q.2⟩
  | o :: l, 1, v, j + 1, w, h => by
    simp only [pl_set1, pl_get] at h
    rcases pl_set1_get l 0 v j w h with ⟨h1, h2⟩ | ⟨h1, h2, h3⟩
    · left; exact ⟨by omega, h2⟩
    · right; exact ⟨by omega, by simpa [pl_get] using h2, fun q => by omega⟩
  | o :: l, n + 2, v, 0, w, h => by
    right
    simp only [pl_set1, pl_get] at h
    exact ⟨by omega, by simpa [pl_get] using h, fun q => by omega⟩
  | o :: l, n + 2, v, j + 1, w, h => by
    simp only [pl_set1, pl_get] at h
    rcases pl_set1_get l (n + 1) v j w h with ⟨h1, h2⟩ | ⟨h1, h2, h3⟩
    · left; exact ⟨by omega, h2⟩
    · right; exact ⟨by omega, by simpa [pl_get] using h2, fun q => h3 ⟨by omega, q.2⟩⟩
theorem pl_set2_get : ∀ (ls : List (Option Value)) (i : Nat) (v : Value) (j : Nat) (w : Value), pl_get (pl_set2 ls i v) j = some w → (j = i ∧ w = v) ∨ (j ≠ i ∧ j ≠ i + 1 ∧ pl_get ls j = some w ∧ ¬ (j + 1 = i ∧ w.category = 2))
  | [], i, v, j, w, h => by simp [pl_set2, pl_get] at h
  | [o], 0, v, 0, w, h => by simp [pl_set2, pl_get] at h
  | [o], 0, v, j + 1, w, h => by simp [pl_set2, pl_get] at h
  | o :: o2 :: l, 0, v, 0, w, h => by
    left; simp [pl_set2, pl_get] at h; exact ⟨rfl, h.symm⟩
  | o :: o2 :: l, 0, v, 1, w, h => by simp [pl_set2, pl_get] at h
  | o :: o2 :: l, 0, v, j + 2, w, h => by
    right; simp [pl_set2, pl_get] at h ⊢; exact h
  | o :: l, 1, v, 0, w, h => by
    right
    simp only [pl_set2, pl_get] at h
    obtain ⟨h1, h2⟩ := pl_cut_get h
    exact ⟨by omega, by omega, by simpa [pl_get] using h1, fun q => h2 q.2⟩
  | o :: l, 1, v, j + 1, w, h => by
    simp only [pl_set2, pl_get] at h
    rcases pl_set2_get l 0 v j w h with ⟨h1, h2⟩ | ⟨h1, h2, h3, h4⟩
    · left; exact ⟨by omega, h2⟩
    · right; exact ⟨by omega, by omega, by simpa [pl_get] using h3, fun q => by omega⟩
  | o :: l, n + 2, v, 0, w, h => by
    right
    simp only [pl_set2, pl_get] at h
    exact ⟨by omega, by omega, by simpa [pl_get] using h, fun q => by omega⟩
  | o :: l, n + 2, v, j + 1, w, h => by
    simp only [pl_set2, pl_get] at h
    rcases pl_set2_get l (n + 1) v j w h with ⟨h1, h2⟩ | ⟨h1, h2, h3, h4⟩
    · left; exact ⟨by omega, h2⟩
    · right; exact ⟨by omega, by omega, by simpa [pl_get] using h3, fun q => h4 ⟨by omega, q.2⟩⟩
/-- the listed values, as the kit's rows want them -/
def pl_list (E : pm_E) (ls : List (Option Value)) : List (Nat × Value) := (List.range ls.length).filterMap (fun i => (pl_get ls i).map (fun v => (i, pm_v E v)))
theorem pl_list_mem {E : pm_E} {ls : List (Option Value)} {q : Nat × Value} : q ∈ pl_list E ls ↔ ∃ v, pl_get ls q.1 = some v ∧ q.2 = pm_v E v := by
  unfold pl_list
  rw [List.mem_filterMap]
  constructor
  · rintro ⟨i, -, h⟩
    cases hg : pl_get ls i with
    | none => rw [hg] at h; cases h
    | some v => rw [hg] at h; cases h; exact ⟨v, hg, rfl⟩
  · rintro ⟨v, h1, h2⟩
    exact ⟨q.1, List.mem_range.mpr (pl_get_lt _ _ _ h1), by rw [h1]; show some (q.1, pm_v E v) = some q; rw [← h2]⟩
theorem pl_to {E : pm_E} {la : Array Slot} {nL : Nat} {ls : List (Option Value)} (h : pl_has E la nL ls) : lv_has la nL (pl_list E ls) := by
  refine ⟨h.1, h.2.1, fun q hq => ?_⟩
  obtain ⟨v, h1, h2⟩ := pl_list_mem.mp hq
  rw [h.2.2 _ _ h1, h2]
theorem pl_at {E : pm_E} {la : Array Slot} {nL : Nat} {ls : List (Option Value)} (h : pl_has E la nL ls) {i : Nat} {v : Value} (hv : pl_get ls i = some v) : la[i]? = some (.val (pm_v E v)) := h.2.2 _ _ hv
theorem pl_of1 {E : pm_E} (hf : (pm_fm E).category = 1) {la : Array Slot} {nL i : Nat} {ls : List (Option Value)} {v : Value} (h : lv_has la nL ((i, pm_v E v) :: (pl_list E ls).filter (fun q => !(q.1 == i) && !(q.1 + 1 == i && q.2.category == 2)))) : pl_has E la nL (pl_set1 ls i v) := by
  refine ⟨h.1, h.2.1, fun j w hw => ?_⟩
  rcases pl_set1_get _ _ _ _ _ hw with ⟨rfl, rfl⟩ | ⟨h1, h2, h3⟩
  · exact h.2.2 (j, pm_v E w) List.mem_cons_self
  · refine h.2.2 (j, pm_v E w) (List.mem_cons_of_mem _ (List.mem_filter.mpr ⟨pl_list_mem.mpr ⟨w, h2, rfl⟩, ?_⟩))
    simp only [pm_v_cat E hf]
    simp only [Bool.and_eq_true, Bool.not_eq_true', beq_eq_false_iff_ne, Bool.and_eq_false_iff]
    refine ⟨h1, ?_⟩
    by_cases hj : j + 1 = i
    · right
      intro q
      exact h3 ⟨hj, q⟩
    · exact Or.inl hj
theorem pl_of2 {E : pm_E} (hf : (pm_fm E).category = 1) {la : Array Slot} {nL i : Nat} {ls : List (Option Value)} {v : Value} (h : lv_has la nL ((i, pm_v E v) :: (pl_list E ls).filter (fun q => !(q.1 == i) && (!(q.1 == i + 1) && !(q.1 + 1 == i && q.2.category == 2))))) : pl_has E la nL (pl_set2 ls i v) := by
  refine ⟨h.1, h.2.1, fun j w hw => ?_⟩
  rcases pl_set2_get _ _ _ _ _ hw with ⟨rfl, rfl⟩ | ⟨h1, h1b, h2, h3⟩
  · exact h.2.2 (j, pm_v E w) List.mem_cons_self
  · refine h.2.2 (j, pm_v E w) (List.mem_cons_of_mem _ (List.mem_filter.mpr ⟨pl_list_mem.mpr ⟨w, h2, rfl⟩, ?_⟩))
    simp only [pm_v_cat E hf]
    simp only [Bool.and_eq_true, Bool.not_eq_true', beq_eq_false_iff_ne, Bool.and_eq_false_iff]
    refine ⟨h1, h1b, ?_⟩
    by_cases hj : j + 1 = i
    · right
      intro q
      exact h3 ⟨hj, q⟩
    · exact Or.inl hj
theorem pl_pad_get : ∀ (l : List (Option Value)) (n i : Nat) (v : Value), pl_get (pl_pad l n) i = some v → pl_get l i = some v
  | l, 0, i, v, h => by
    cases l <;> simpa [pl_pad] using h
  | [], n + 1, 0, v, h => by simp [pl_pad, pl_get] at h
  | [], n + 1, i + 1, v, h => by
    simp only [pl_pad, pl_get] at h
    have := pl_pad_get [] n i v h
    simp [pl_get] at this
  | o :: l, n + 1, 0, v, h => by simpa [pl_pad, pl_get] using h
  | o :: l, n + 1, i + 1, v, h => by
    simp only [pl_pad, pl_get] at h ⊢
    exact pl_pad_get l n i v h
theorem pl_f_args (E : pm_E) (hf : (pm_fm E).category = 1) : ∀ (as : List Value) (k i : Nat) (v : Value), pl_get (pl_f as) i = some v → (k + i, pm_v E v) ∈ lv_args k (as.map (pm_v E))
  | [], k, i, v, h => by simp [pl_f, pl_get] at h
  | a :: as, k, i, v, h => by
    have hc := pm_v_cat E hf a
    by_cases h2 : a.category = 2
    · have e1 : pl_f (a :: as) = some a :: none :: pl_f as := by
        cases a <;> simp [Value.category] at h2 <;> rfl
      rw [e1] at h
      rw [List.map_cons, lv_args, if_pos (by rw [hc]; exact h2)]
      match i, h with
      | 0, h =>
        simp only [pl_get, Option.some.injEq] at h
        subst h
        exact List.mem_cons_self
      | 1, h => simp [pl_get] at h
      | i + 2, h =>
        simp only [pl_get] at h
        have := pl_f_args E hf as (k + 2) i v h
        rw [show k + 2 + i = k + (i + 2) by omega] at this
        exact List.mem_cons_of_mem _ this
    · have e1 : pl_f (a :: as) = some a :: pl_f as := by
        cases a <;> simp [Value.category] at h2 <;> rfl
      rw [e1] at h
      rw [List.map_cons, lv_args, if_neg (by rw [hc]; exact h2)]
      match i, h with
      | 0, h =>
        simp only [pl_get, Option.some.injEq] at h
        subst h
        exact List.mem_cons_self
      | i + 1, h =>
        simp only [pl_get] at h
        have := pl_f_args E hf as (k + 1) i v h
        rw [show k + 1 + i = k + (i + 1) by omega] at this
        exact List.mem_cons_of_mem _ this
theorem pl_f_len (E : pm_E) (hf : (pm_fm E).category = 1) : ∀ (as : List Value), (lg_sl (as.map (pm_v E))).length = (pl_f as).length
  | [] => rfl
  | a :: as => by
    have ih := pl_f_len E hf as
    have hc := pm_v_cat E hf a
    unfold lg_sl at ih ⊢
    rw [List.map_cons, List.flatMap_cons, List.length_append, ih, hc]
    cases a <;> simp [Value.category, pl_f] <;> omega
