/-! ===== rows of ticks: pure ===== -/
def spOK (l : zR) : Prop := ∀ q ∈ l, -1125899906842624 ≤ q.1.toInt ∧ q.1.toInt ≤ q.2.toInt ∧ q.2.toInt ≤ 1100000000000
def hI (t : Int) (q : Int64 × Int64) : Bool := decide (q.1.toInt ≤ t) && decide (t ≤ q.2.toInt)
def cn (l : zR) (t : Int) : Nat := l.countP (hI t)
theorem hI_iff {t : Int} {q : Int64 × Int64} : hI t q = true ↔ q.1.toInt ≤ t ∧ t ≤ q.2.toInt := by
  simp [hI]
theorem hold_hI (t : Int64) (q : Int64 × Int64) : hold t q = hI t.toInt q := by
  unfold hold hI
  simp only [Int64.le_iff_toInt_le]
theorem cnt_cn (l : zR) (t : Int64) : cnt l t = cn l t.toInt := by
  unfold cnt cn
  congr 1
  funext q
  exact hold_hI t q
theorem cn_mono {l : zR} {t u : Int} (h : ∀ q ∈ l, hI t q = true → hI u q = true) : cn l t ≤ cn l u := List.countP_mono_left h
theorem cn_zero {l : zR} {t : Int} (h : ∀ q ∈ l, ¬ hI t q = true) : cn l t = 0 := List.countP_eq_zero.mpr h
theorem cn_pos {l : zR} {t : Int} (h : 0 < cn l t) : ∃ q ∈ l, hI t q = true := List.countP_pos_iff.mp h
/-- of those that hold a tick, the one that begins last -/
theorem last_begin (t : Int) : ∀ (l : zR), (∃ q ∈ l, hI t q = true) → ∃ q ∈ l, hI t q = true ∧ ∀ r ∈ l, hI t r = true → r.1.toInt ≤ q.1.toInt
  | [], h => by
    obtain ⟨q, hq, -⟩ := h
    cases hq
  | a :: l, h => by
    by_cases hl : ∃ q ∈ l, hI t q = true
    · obtain ⟨q, h1, h2, h3⟩ := last_begin t l hl
      by_cases ha : hI t a = true ∧ q.1.toInt < a.1.toInt
      · refine ⟨a, List.mem_cons_self, ha.1, fun r hr hh => ?_⟩
        rcases List.mem_cons.mp hr with rfl | hr
        · exact Int.le_refl _
        · have := h3 r hr hh
          omega
      · refine ⟨q, List.mem_cons_of_mem _ h1, h2, fun r hr hh => ?_⟩
        rcases List.mem_cons.mp hr with rfl | hr
        · rcases Int.lt_or_le q.1.toInt r.1.toInt with z | z
          · exact absurd ⟨hh, z⟩ ha
          · exact z
        · exact h3 r hr hh
    · obtain ⟨q, hq, hh⟩ := h
      rcases List.mem_cons.mp hq with rfl | hq
      · refine ⟨q, List.mem_cons_self, hh, fun r hr hr2 => ?_⟩
        rcases List.mem_cons.mp hr with rfl | hr
        · exact Int.le_refl _
        · exact absurd ⟨r, hr, hr2⟩ hl
      · exact absurd ⟨q, hq, hh⟩ hl
theorem fnd_prop (L : zR) : ∀ (l : zR) (a : Nat × Int64), (a.1 ≤ (fnd L a l).1 ∧ ∀ q ∈ l, cnt L q.1 ≤ (fnd L a l).1) ∧ (fnd L a l = a ∨ ∃ q ∈ l, fnd L a l = (cnt L q.1, q.1))
  | [], a => ⟨⟨Nat.le_refl _, fun q hq => by cases hq⟩, Or.inl rfl⟩
  | q :: l, a => by
    unfold fnd
    split
    · rename_i hc
      obtain ⟨⟨h1, h2⟩, h3⟩ := fnd_prop L l (cnt L q.1, q.1)
      have h1 : cnt L q.1 ≤ (fnd L (cnt L q.1, q.1) l).1 := h1
      refine ⟨⟨by rcases hc with z | z <;> omega, fun r hr => ?_⟩, ?_⟩
      · rcases List.mem_cons.mp hr with rfl | hr
        · exact h1
        · exact h2 r hr
      · rcases h3 with z | ⟨r, hr, z⟩
        · exact Or.inr ⟨q, List.mem_cons_self, z⟩
        · exact Or.inr ⟨r, List.mem_cons_of_mem _ hr, z⟩
    · rename_i hc
      obtain ⟨⟨h1, h2⟩, h3⟩ := fnd_prop L l a
      have hq : cnt L q.1 ≤ a.1 := by
        rcases Nat.lt_or_ge a.1 (cnt L q.1) with z | z
        · exact absurd (Or.inl z) hc
        · exact z
      refine ⟨⟨h1, fun r hr => ?_⟩, ?_⟩
      · rcases List.mem_cons.mp hr with rfl | hr
        · omega
        · exact h2 r hr
      · rcases h3 with z | ⟨r, hr, z⟩
        · exact Or.inl z
        · exact Or.inr ⟨r, List.mem_cons_of_mem _ hr, z⟩
theorem cn_le_mst (l : zR) (t : Int) : cn l t ≤ mst l := by
  rcases Nat.eq_zero_or_pos (cn l t) with z | z
  · omega
  · obtain ⟨q, h1, h2, h3⟩ := last_begin t l (cn_pos z)
    have hq := hI_iff.mp h2
    have h4 : cn l t ≤ cn l q.1.toInt := cn_mono (fun r hr hh => by
      have a := hI_iff.mp hh
      have b := h3 r hr hh
      exact hI_iff.mpr ⟨b, by omega⟩)
    have h5 := (fnd_prop l l (0, 0)).1.2 q h1
    rw [cnt_cn] at h5
    exact Nat.le_trans h4 h5
theorem mst_pos {l : zR} (hl : spOK l) (hne : l ≠ []) : 1 ≤ mst l := by
  obtain ⟨q, hq⟩ : ∃ q, q ∈ l := List.exists_mem_of_ne_nil l hne
  have h1 := (hl q hq).2.1
  have h2 : 0 < cn l q.1.toInt := List.countP_pos_iff.mpr ⟨q, hq, hI_iff.mpr ⟨Int.le_refl _, h1⟩⟩
  have := cn_le_mst l q.1.toInt
  omega
theorem beg_mem {l : zR} (hl : spOK l) (hne : l ≠ []) : (∃ q ∈ l, beg l = q.1) ∧ cn l (beg l).toInt = mst l := by
  have hp := mst_pos hl hne
  rcases (fnd_prop l l (0, 0)).2 with z | ⟨q, hq, z⟩
  · have : mst l = 0 := by show (fnd l (0, 0) l).1 = 0; rw [z]
    omega
  · refine ⟨⟨q, hq, by show (fnd l (0, 0) l).2 = _; rw [z]⟩, ?_⟩
    show cn l (fnd l (0, 0) l).2.toInt = (fnd l (0, 0) l).1
    rw [z, ← cnt_cn]
/-- a first tick that isn't there plays no part -/
theorem fnd_any {l : zR} (hl : spOK l) (hne : l ≠ []) (r0 : Int64) : fnd l (0, r0) l = fnd l (0, 0) l := by
  match l, hne with
  | q :: l', _ =>
    have h1 := (hl q List.mem_cons_self).2.1
    have hp : 0 < cnt (q :: l') q.1 := by
      rw [cnt_cn]
      exact List.countP_pos_iff.mpr ⟨q, List.mem_cons_self, hI_iff.mpr ⟨Int.le_refl _, h1⟩⟩
    rw [fnd, fnd, if_pos (Or.inl hp), if_pos (Or.inl hp)]
/-- all ticks from the first one on to e are in the most spans -/
def rowP (l : zR) (e : Int) : Prop := (beg l).toInt ≤ e ∧ ∀ t, (beg l).toInt ≤ t → t ≤ e → cn l t = mst l
theorem rowP_uniq {l : zR} {e f : Int} (h1 : rowP l e) (h2 : rowP l f) (n1 : ¬ cn l (e + 1) = mst l) (n2 : ¬ cn l (f + 1) = mst l) : e = f := by
  rcases Int.lt_trichotomy e f with z | z | z
  · exact absurd (h2.2 (e + 1) (by have := h1.1; omega) (by omega)) n1
  · exact z
  · exact absurd (h1.2 (f + 1) (by have := h2.1; omega) (by omega)) n2
theorem lE_prop (t : Int64) : ∀ (l : zR) (acc : Int64), ((lE t acc l).toInt ≤ acc.toInt ∧ ∀ q ∈ l, hold t q = true → (lE t acc l).toInt ≤ q.2.toInt) ∧ (lE t acc l = acc ∨ ∃ q ∈ l, hold t q = true ∧ lE t acc l = q.2)
  | [], acc => ⟨⟨Int.le_refl _, fun q hq => by cases hq⟩, Or.inl rfl⟩
  | a :: l, acc => by
    unfold lE
    obtain ⟨⟨h1, h2⟩, h3⟩ := lE_prop t l (if hold t a = true then (if a.2 < acc then a.2 else acc) else acc)
    generalize he : (if hold t a = true then (if a.2 < acc then a.2 else acc) else acc) = b at h1 h2 h3 ⊢
    have hb : b.toInt ≤ acc.toInt ∧ (hold t a = true → b.toInt ≤ a.2.toInt) ∧ (b = acc ∨ (hold t a = true ∧ b = a.2)) := by
      rw [← he]
      split
      · rename_i hh
        split
        · rename_i hlt
          have := Int64.lt_iff_toInt_lt.mp hlt
          exact ⟨by omega, fun _ => Int.le_refl _, Or.inr ⟨hh, rfl⟩⟩
        · rename_i hlt
          have := Int64.le_iff_toInt_le.mp (Int64.not_lt.mp hlt)
          exact ⟨Int.le_refl _, fun _ => this, Or.inl rfl⟩
      · rename_i hh
        exact ⟨Int.le_refl _, fun z => absurd z hh, Or.inl rfl⟩
    refine ⟨⟨by omega, fun q hq hh => ?_⟩, ?_⟩
    · rcases List.mem_cons.mp hq with rfl | hq
      · have := hb.2.1 hh
        omega
      · exact h2 q hq hh
    · rcases h3 with z | ⟨q, hq, hh, z⟩
      · rcases hb.2.2 with y | ⟨y1, y2⟩
        · exact Or.inl (z.trans y)
        · exact Or.inr ⟨a, List.mem_cons_self, y1, z.trans y2⟩
      · exact Or.inr ⟨q, List.mem_cons_of_mem _ hq, hh, z⟩
def uE (l : zR) (e : Int) : Nat := l.countP (fun q => decide (e < q.2.toInt))
theorem i64_succ {e : Int64} (h1 : -1125899906842624 ≤ e.toInt) (h2 : e.toInt ≤ 1100000000001) : (e + 1).toInt = e.toInt + 1 := by
  rw [Int64.toInt_add]
  show (e.toInt + 1).bmod (2 ^ 64) = _
  rw [Int.bmod_eq_of_le (by omega) (by omega)]
theorem max_toInt : (9223372036854775807 : Int64).toInt = 9223372036854775807 := by decide
theorem uE_lt {l : zR} {e f : Int} (hef : e ≤ f) (h : ∃ q ∈ l, e < q.2.toInt ∧ ¬ f < q.2.toInt) : uE l f < uE l e := by
  unfold uE
  obtain ⟨q, hq, h1, h2⟩ := h
  induction l with
  | nil => cases hq
  | cons a l ih =>
    have mono : l.countP (fun q => decide (f < q.2.toInt)) ≤ l.countP (fun q => decide (e < q.2.toInt)) := List.countP_mono_left (fun r _ hr => by simp at hr ⊢; omega)
    rcases List.mem_cons.mp hq with rfl | hq
    · rw [List.countP_cons, List.countP_cons]
      simp [h1, h2]
      omega
    · have := ih hq
      rw [List.countP_cons, List.countP_cons]
      by_cases hf : f < a.2.toInt
      · have he : e < a.2.toInt := by omega
        simp [hf, he]
        omega
      · by_cases he : e < a.2.toInt
        · simp [hf, he]
          omega
        · simp [hf, he]
          omega
theorem eor_prop {l : zR} (hl : spOK l) (hne : l ≠ []) : ∀ (n : Nat) (e : Int64), rowP l e.toInt → -1125899906842624 ≤ e.toInt → e.toInt ≤ 1100000000000 → uE l e.toInt ≤ n → rowP l (eor l (mst l) n e).toInt ∧ ¬ cn l ((eor l (mst l) n e).toInt + 1) = mst l ∧ -1125899906842624 ≤ (eor l (mst l) n e).toInt ∧ (eor l (mst l) n e).toInt ≤ 1100000000000
  | 0, e, hr, hb1, hb2, hu => by
    refine ⟨hr, ?_, hb1, hb2⟩
    have hp := mst_pos hl hne
    show ¬ cn l (e.toInt + 1) = mst l
    rw [cn_zero (fun q hq hh => ?_)]
    · omega
    · have h1 := hI_iff.mp hh
      have : 0 < uE l e.toInt := List.countP_pos_iff.mpr ⟨q, hq, by simp; omega⟩
      omega
  | n + 1, e, hr, hb1, hb2, hu => by
    unfold eor
    have e1 := i64_succ hb1 (by omega)
    split
    · rename_i hc
      rw [cnt_cn, e1] at hc
      have hp := mst_pos hl hne
      obtain ⟨⟨p1, p2⟩, p3⟩ := lE_prop (e + 1) l 9223372036854775807
      generalize lE (e + 1) 9223372036854775807 l = f at p1 p2 p3 ⊢
      obtain ⟨r, hr1, hr2⟩ := cn_pos (show 0 < cn l (e.toInt + 1) by omega)
      have hr3 := p2 r hr1 (by rw [hold_hI, e1]; exact hr2)
      have hrl := hl r hr1
      obtain ⟨q, hq, hh, hf⟩ : ∃ q ∈ l, hold (e + 1) q = true ∧ f = q.2 := by
        rcases p3 with z | z
        · rw [z, max_toInt] at hr3
          omega
        · exact z
      rw [hold_hI, e1] at hh
      have hh := hI_iff.mp hh
      have hql := hl q hq
      have hfi : f.toInt = q.2.toInt := by rw [hf]
      refine eor_prop hl hne n f ⟨by have := hr.1; omega, fun t t1 t2 => ?_⟩ (by omega) (by omega) ?_
      · by_cases ht : t ≤ e.toInt
        · exact hr.2 t t1 ht
        · have g1 := cn_le_mst l t
          have g2 : cn l (e.toInt + 1) ≤ cn l t := cn_mono (fun r hr hh => by
            have a := hI_iff.mp hh
            have b := p2 r hr (by rw [hold_hI, e1]; exact hh)
            exact hI_iff.mpr ⟨by omega, by omega⟩)
          omega
      · have := uE_lt (l := l) (e := e.toInt) (f := f.toInt) (by omega) ⟨q, hq, by omega, by omega⟩
        omega
    · rename_i hc
      rw [cnt_cn, e1] at hc
      exact ⟨hr, hc, hb1, hb2⟩
theorem beg_rowP {l : zR} (hl : spOK l) (hne : l ≠ []) : rowP l (beg l).toInt := ⟨Int.le_refl _, fun t h1 h2 => by
  rw [show t = (beg l).toInt by omega]
  exact (beg_mem hl hne).2⟩
theorem beg_bd {l : zR} (hl : spOK l) (hne : l ≠ []) : -1125899906842624 ≤ (beg l).toInt ∧ (beg l).toInt ≤ 1100000000000 := by
  obtain ⟨q, hq, e⟩ := (beg_mem hl hne).1
  have := hl q hq
  rw [e]
  omega
theorem rend_prop {l : zR} (hl : spOK l) (hne : l ≠ []) : rowP l (rend l).toInt ∧ ¬ cn l ((rend l).toInt + 1) = mst l ∧ -1125899906842624 ≤ (rend l).toInt ∧ (rend l).toInt ≤ 1100000000000 :=
  eor_prop hl hne l.length (beg l) (beg_rowP hl hne) (beg_bd hl hne).1 (beg_bd hl hne).2 List.countP_le_length
theorem sT_prop (t : Int64) : ∀ (l : zR) (acc : Int64), ((sT' t acc l).toInt ≤ acc.toInt ∧ ∀ q ∈ l, (sT' t acc l).toInt ≤ (sE t q).toInt) ∧ (sT' t acc l = acc ∨ ∃ q ∈ l, sT' t acc l = sE t q)
  | [], acc => ⟨⟨Int.le_refl _, fun q hq => by cases hq⟩, Or.inl rfl⟩
  | a :: l, acc => by
    unfold sT'
    obtain ⟨⟨h1, h2⟩, h3⟩ := sT_prop t l (if sE t a < acc then sE t a else acc)
    generalize he : (if sE t a < acc then sE t a else acc) = b at h1 h2 h3 ⊢
    have hb : b.toInt ≤ acc.toInt ∧ b.toInt ≤ (sE t a).toInt ∧ (b = acc ∨ b = sE t a) := by
      rw [← he]
      split
      · rename_i hlt
        have := Int64.lt_iff_toInt_lt.mp hlt
        exact ⟨by omega, Int.le_refl _, Or.inr rfl⟩
      · rename_i hlt
        have := Int64.le_iff_toInt_le.mp (Int64.not_lt.mp hlt)
        exact ⟨Int.le_refl _, this, Or.inl rfl⟩
    refine ⟨⟨by omega, fun q hq => ?_⟩, ?_⟩
    · rcases List.mem_cons.mp hq with rfl | hq
      · omega
      · exact h2 q hq
    · rcases h3 with z | ⟨q, hq, z⟩
      · rcases hb.2.2 with y | y
        · exact Or.inl (z.trans y)
        · exact Or.inr ⟨a, List.mem_cons_self, z.trans y⟩
      · exact Or.inr ⟨q, List.mem_cons_of_mem _ hq, z⟩
theorem i64_pred {e : Int64} (h1 : -1125899906842624 ≤ e.toInt) (h2 : e.toInt ≤ 1100000000001) : (e - 1).toInt = e.toInt - 1 := by
  rw [Int64.toInt_sub]
  show (e.toInt - 1).bmod (2 ^ 64) = _
  rw [Int.bmod_eq_of_le (by omega) (by omega)]
/-- from a tick that a span holds on, the same spans hold -/
theorem sTo_prop {l : zR} (hl : spOK l) {t : Int64} (hh : ∃ q ∈ l, hold t q = true) : t.toInt ≤ (sTo l t).toInt ∧ (sTo l t).toInt ≤ 1100000000000 ∧ ∀ u, t.toInt ≤ u → u ≤ (sTo l t).toInt → cn l u = cn l t.toInt := by
  obtain ⟨⟨h1, h2⟩, h3⟩ := sT_prop t l 9223372036854775807
  show t.toInt ≤ (sT' t 9223372036854775807 l).toInt ∧ (sT' t 9223372036854775807 l).toInt ≤ 1100000000000 ∧ ∀ u, t.toInt ≤ u → u ≤ (sT' t 9223372036854775807 l).toInt → cn l u = cn l t.toInt
  generalize sT' t 9223372036854775807 l = f at h1 h2 h3 ⊢
  have sEv : ∀ q ∈ l, (t.toInt < q.1.toInt → (sE t q).toInt = q.1.toInt - 1) ∧ (¬ t.toInt < q.1.toInt → t.toInt ≤ q.2.toInt → (sE t q).toInt = q.2.toInt) ∧ t.toInt ≤ (sE t q).toInt := by
    intro q hq
    have hql := hl q hq
    unfold sE
    by_cases g1 : t < q.1
    · have g1' := Int64.lt_iff_toInt_lt.mp g1
      rw [if_pos g1, i64_pred hql.1 (by omega)]
      exact ⟨fun _ => rfl, fun z => absurd g1' z, by omega⟩
    · have g1' : ¬ t.toInt < q.1.toInt := fun z => g1 (Int64.lt_iff_toInt_lt.mpr z)
      rw [if_neg g1]
      by_cases g2 : t ≤ q.2
      · have g2' := Int64.le_iff_toInt_le.mp g2
        rw [if_pos g2]
        exact ⟨fun z => absurd z g1', fun _ _ => rfl, g2'⟩
      · have g2' : ¬ t.toInt ≤ q.2.toInt := fun z => g2 (Int64.le_iff_toInt_le.mpr z)
        rw [if_neg g2, max_toInt]
        refine ⟨fun z => absurd z g1', fun _ z => absurd z g2', ?_⟩
        have := Int64.toInt_lt t
        omega
  obtain ⟨r, hr, hrh⟩ := hh
  rw [hold_hI] at hrh
  have hrh := hI_iff.mp hrh
  have hrl := hl r hr
  have hr2 := h2 r hr
  rw [(sEv r hr).2.1 (by omega) hrh.2] at hr2
  refine ⟨?_, by omega, fun u u1 u2 => ?_⟩
  · rcases h3 with z | ⟨q, hq, z⟩
    · rw [z, max_toInt] at hr2
      omega
    · rw [z]
      exact (sEv q hq).2.2
  · have a1 : cn l u ≤ cn l t.toInt := cn_mono (fun q hq hq2 => by
      have a := hI_iff.mp hq2
      refine hI_iff.mpr ⟨?_, by omega⟩
      rcases Int.lt_or_le t.toInt q.1.toInt with z | z
      · have := h2 q hq
        rw [(sEv q hq).1 z] at this
        omega
      · exact z)
    have a2 : cn l t.toInt ≤ cn l u := cn_mono (fun q hq hq2 => by
      have a := hI_iff.mp hq2
      have := h2 q hq
      rw [(sEv q hq).2.1 (by omega) a.2] at this
      exact hI_iff.mpr ⟨by omega, by omega⟩)
    omega
