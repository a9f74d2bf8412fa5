/-! ===== the reference: back ===== -/
def shN (at' tk wi n : Nat) : Nat := tk * min (n - at') wi / wi
def smN (kd : Int64) (at' tk wi n : Nat) : Nat := if kd = 0 then n + shN at' tk wi n else n - shN at' tk wi n
theorem shN_le {at' tk wi n : Nat} (hw : tk < wi) : shN at' tk wi n ≤ tk ∧ shN at' tk wi n ≤ n := by
  have h1 : tk * min (n - at') wi / wi ≤ tk * wi / wi := Nat.div_le_div_right (Nat.mul_le_mul (Nat.le_refl _) (Nat.min_le_right _ _))
  rw [Nat.mul_div_cancel _ (by omega)] at h1
  have h2 : tk * min (n - at') wi / wi ≤ wi * (n - at') / wi := Nat.div_le_div_right (Nat.mul_le_mul (by omega) (Nat.min_le_left _ _))
  rw [Nat.mul_div_cancel_left _ (by omega)] at h2
  exact ⟨h1, Nat.le_trans h2 (by omega)⟩
theorem shN_step {at' tk wi n : Nat} (hw : tk < wi) : shN at' tk wi n ≤ shN at' tk wi (n + 1) ∧ shN at' tk wi (n + 1) ≤ shN at' tk wi n + 1 := by
  unfold shN
  have hm : min (n - at') wi ≤ min (n + 1 - at') wi ∧ min (n + 1 - at') wi ≤ min (n - at') wi + 1 := by omega
  generalize min (n - at') wi = p at hm
  generalize min (n + 1 - at') wi = q at hm
  refine ⟨Nat.div_le_div_right (Nat.mul_le_mul (Nat.le_refl _) hm.1), ?_⟩
  have h1 : tk * q / wi ≤ (tk * p + wi) / wi := Nat.div_le_div_right (by
    have : tk * q ≤ tk * (p + 1) := Nat.mul_le_mul (Nat.le_refl _) hm.2
    rw [Nat.mul_add] at this
    omega)
  rw [Nat.add_div_right _ (by omega)] at h1
  exact h1
theorem smN_step {kd : Int64} {at' tk wi n : Nat} (hw : tk < wi) : smN kd at' tk wi n ≤ smN kd at' tk wi (n + 1) := by
  have h1 := shN_step (at' := at') (n := n) hw
  have h2 := shN_le (at' := at') (n := n) hw
  have h3 := shN_le (at' := at') (n := n + 1) hw
  unfold smN
  split <;> omega
theorem smN_mono {kd : Int64} {at' tk wi : Nat} (hw : tk < wi) : ∀ (d n : Nat), smN kd at' tk wi n ≤ smN kd at' tk wi (n + d)
  | 0, n => Nat.le_refl _
  | d + 1, n => Nat.le_trans (smN_mono hw d n) (smN_step hw)
theorem smN_bd {kd : Int64} {at' tk wi n : Nat} (hw : tk < wi) : smN kd at' tk wi n ≤ n + tk ∧ n ≤ smN kd at' tk wi n + tk := by
  have h2 := shN_le (at' := at') (n := n) hw
  unfold smN
  split <;> omega
theorem dSmear_N {kd : Int64} {at' tk wi n : Nat} (ha : at' ≤ 1000000000000) (ht : tk ≤ 1000) (hw : tk < wi) (hw2 : wi ≤ 1000000000) (hn : n ≤ 3000000000000) : dSmear (lN at', lN tk, lN wi, kd) (lN n) = lN (smN kd at' tk wi n) := by
  have es : dShift (lN at', lN tk, lN wi, kd) (lN n) = lN (shN at' tk wi n) := by
    show (if lN n ≤ lN at' then (0 : Int64) else if lN at' + lN wi ≤ lN n ∨ lN wi ≤ 0 then lN tk else lN tk * (lN n - lN at') / lN wi) = _
    unfold shN
    by_cases q : n ≤ at'
    · rw [if_pos ((pk_lLE (by omega) (by omega)).mpr q), show n - at' = 0 by omega, Nat.zero_min, Nat.mul_zero, Nat.zero_div]
      rfl
    · rw [if_neg (fun z => q ((pk_lLE (by omega) (by omega)).mp z)), lN_add]
      have n0 : ¬ lN wi ≤ 0 := fun z => by
        have := (pk_lLE (a := wi) (b := 0) (by omega) (by omega)).mp z
        omega
      by_cases q2 : at' + wi ≤ n
      · rw [if_pos (Or.inl ((pk_lLE (by omega) (by omega)).mpr q2)), show min (n - at') wi = wi by omega, Nat.mul_div_cancel _ (by omega)]
      · rw [if_neg (fun z => z.elim (fun u => q2 ((pk_lLE (by omega) (by omega)).mp u)) n0), lN_sub (by omega), lN_mul, show min (n - at') wi = n - at' by omega]
        have hb : tk * (n - at') ≤ 1000 * 1000000000 := Nat.mul_le_mul ht (by omega)
        exact pk_lDiv (by omega) (by omega) (by omega)
  have hle := (shN_le (at' := at') (n := n) hw).2
  unfold dSmear smN
  rw [es]
  show (if kd = 0 then _ else _) = _
  split
  · exact lN_add _ _
  · exact lN_sub hle
def isL (kd : Int64) (at' tk wi v r : Nat) : Prop := v ≤ smN kd at' tk wi r ∧ ∀ t, t < r → smN kd at' tk wi t < v
theorem isL_uniq {kd : Int64} {at' tk wi v r r' : Nat} (h : isL kd at' tk wi v r) (h' : isL kd at' tk wi v r') : r = r' := by
  rcases Nat.lt_trichotomy r r' with z | z | z
  · have := h'.2 r z
    have := h.1
    omega
  · exact z
  · have := h.2 r' z
    have := h'.1
    omega
theorem isL_low {kd : Int64} {at' tk wi v mid : Nat} (hw : tk < wi) (h : smN kd at' tk wi mid < v) : ∀ t, t < mid + 1 → smN kd at' tk wi t < v := fun t ht => by
  have := smN_mono (kd := kd) (at' := at') hw (mid - t) t
  rw [show t + (mid - t) = mid by omega] at this
  omega
theorem dBs_spec {kd : Int64} {at' tk wi v : Nat} (ha : at' ≤ 1000000000000) (ht : tk ≤ 1000) (hw : tk < wi) (hw2 : wi ≤ 1000000000) (hv : v ≤ 2000000000000) : ∀ (n a b : Nat), b - a < 2 ^ n → a ≤ b → b ≤ 2500000000000 → (∀ t, t < a → smN kd at' tk wi t < v) → v ≤ smN kd at' tk wi b → ∃ r, dBs (lN at', lN tk, lN wi, kd) (lN v) n (lN a) (lN b) = lN r ∧ isL kd at' tk wi v r := by
  intro n
  induction n with
  | zero =>
    intro a b h1 h2 h3 h4 h5
    have : a = b := by
      rw [Nat.pow_zero] at h1
      omega
    subst this
    exact ⟨a, rfl, h5, h4⟩
  | succ n ih =>
    intro a b h1 h2 h3 h4 h5
    rw [Nat.pow_succ] at h1
    rw [dBs]
    by_cases q : b ≤ a
    · have : a = b := by omega
      subst this
      rw [if_pos ((pk_lLE (by omega) (by omega)).mpr q)]
      exact ⟨a, rfl, h5, h4⟩
    · have em : lN a + (lN b - lN a) / 2 = lN (a + (b - a) / 2) := by
        rw [lN_sub h2, show (2 : Int64) = lN 2 from rfl, pk_lDiv (by omega) (by omega) (by omega), lN_add]
      have e1 : (1 : Int64) = lN 1 := rfl
      have hm : a + (b - a) / 2 < b := by omega
      rw [if_neg (fun z => q ((pk_lLE (by omega) (by omega)).mp z)), em, dSmear_N ha ht hw hw2 (by omega)]
      have sb := (smN_bd (kd := kd) (at' := at') (n := a + (b - a) / 2) hw).1
      by_cases q2 : smN kd at' tk wi (a + (b - a) / 2) < v
      · rw [if_pos ((pk_lLT (by omega) (by omega)).mpr q2), e1, lN_add]
        exact ih _ _ (by omega) (by omega) h3 (isL_low hw q2) h5
      · rw [if_neg (fun z => q2 ((pk_lLT (by omega) (by omega)).mp z))]
        exact ih _ _ (by omega) (by omega) (by omega) h4 (by omega)
theorem leap_N {L : zL} (h : okLeap L.1 L.2.1 L.2.2.1 L.2.2.2) : ∃ at' tk wi : Nat, L = (lN at', lN tk, lN wi, L.2.2.2) ∧ at' ≤ 1000000000000 ∧ 1 ≤ tk ∧ tk ≤ 1000 ∧ tk < wi ∧ wi ≤ 1000000000 := by
  obtain ⟨⟨a1, a2⟩, ⟨b1, b2⟩, ⟨c1, c2⟩⟩ := okL_int h
  have z0 : (0 : Int64).toInt = 0 := by decide
  obtain ⟨a, ha, ea⟩ := pk_lOf (x := L.1) (fun z => by have := Int64.lt_iff_toInt_lt.mp z; omega)
  obtain ⟨b, hb, eb⟩ := pk_lOf (x := L.2.1) (fun z => by have := Int64.lt_iff_toInt_lt.mp z; omega)
  obtain ⟨c, hc, ec⟩ := pk_lOf (x := L.2.2.1) (fun z => by have := Int64.lt_iff_toInt_lt.mp z; omega)
  rw [ea, pk_lT ha] at a1 a2
  rw [eb, pk_lT hb] at b1 b2
  rw [eb, ec, pk_lT hb, pk_lT hc] at c1
  rw [ec, pk_lT hc] at c2
  exact ⟨a, b, c, by rw [← ea, ← eb, ← ec], by omega, by omega, by omega, by omega, by omega⟩
theorem dBack_spec {L : zL} {kd : Int64} {at' tk wi v : Nat} (hL : L = (lN at', lN tk, lN wi, kd)) (ha : at' ≤ 1000000000000) (ht : tk ≤ 1000) (hw : tk < wi) (hw2 : wi ≤ 1000000000) (hv : v ≤ 2000000000000) : ∃ r, dBack L (lN v) = lN r ∧ isL kd at' tk wi v r := by
  subst hL
  have e0 : (if lN v - lN tk < 0 then (0 : Int64) else lN v - lN tk) = lN (v - tk) := by
    by_cases q : tk ≤ v
    · rw [lN_sub q, if_neg (fun z => by have := (pk_lLT (a := v - tk) (b := 0) (by omega) (by omega)).mp z; omega)]
    · have ti : (lN v - lN tk).toInt = (v : Int) - tk := by
        have t1 := pk_lT (n := v) (by omega)
        have t2 := pk_lT (n := tk) (by omega)
        rw [i64_sub (by rw [t1, t2]; omega) (by rw [t1, t2]; omega), t1, t2]
      rw [if_pos (Int64.lt_iff_toInt_lt.mpr (by rw [ti, show (0 : Int64).toInt = 0 by decide]; omega)), show v - tk = 0 by omega]
      rfl
  have eq : dBack (lN at', lN tk, lN wi, kd) (lN v) = dBs (lN at', lN tk, lN wi, kd) (lN v) 64 (lN (v - tk)) (lN (v + tk)) := by
    show dBs (lN at', lN tk, lN wi, kd) (lN v) 64 (if lN v - lN tk < 0 then (0 : Int64) else lN v - lN tk) (lN v + lN tk) = _
    rw [e0, lN_add]
  rw [eq]
  refine dBs_spec ha ht hw hw2 hv 64 _ _ (by omega) (by omega) (by omega) (fun t h => ?_) ?_
  · have := (smN_bd (kd := kd) (at' := at') (n := t) hw).1
    omega
  · have := (smN_bd (kd := kd) (at' := at') (n := v + tk) hw).2
    omega
theorem l_backM {E : pm_E} {Q : pm_Q} {x y : zD} {m : zN} {k : Nat} {kd : Int64} {at' tk wi v : Nat} (I : Inv k x m) (hL : xL x = (lN at', lN tk, lN wi, kd)) (ha : at' ≤ 1000000000000) (ht : tk ≤ 1000) (hw : tk < wi) (hw2 : wi ≤ 1000000000) (hv : v ≤ 2000000000000) (h : ∀ r, isL kd at' tk wi v r → Q (some (.long (lN r))) (mkH y m)) : ∀ (n a b : Nat) (o7 o8 : Option Value), b - a ≤ n → a ≤ b → b ≤ 2500000000000 → (∀ t, t < a → smN kd at' tk wi t < v) → v ≤ smN kd at' tk wi b → Sm E n_X9_back 24 ([some (.ref 92), some (.long (lN v)), none, some (.long (lN a)), none, some (.long (lN b)), none, o7, o8], [], mkH y m, 0, 0) Q := by
  intro n
  induction n with
  | zero =>
    intro a b o7 o8 h1 h2 h3 h4 h5
    have : a = b := by omega
    subst this
    refine pm_lp (aX9_back E) 100 24 rfl ?_
    conv => whnf
    refine ⟨fun _ => ?_, fun q => absurd (Int64.le_refl (lN a)) q⟩
    conv => whnf
    exact ⟨trivial, h a ⟨h5, h4⟩⟩
  | succ n ih =>
    intro a b o7 o8 h1 h2 h3 h4 h5
    refine pm_lp (aX9_back E) 100 24 rfl ?_
    conv => whnf
    refine ⟨fun q => ?_, fun q => ?_⟩
    · have : b ≤ a := (pk_lLE (by omega) (by omega)).mp q
      have : a = b := by omega
      subst this
      conv => whnf
      exact ⟨trivial, h a ⟨h5, h4⟩⟩
    · have hab : a < b := by
        rcases Nat.lt_or_ge a b with z | z
        · exact z
        · exact absurd ((pk_lLE (by omega) (by omega)).mpr z) q
      have em : (lN a + lN b) / 2 = lN ((a + b) / 2) := by
        rw [lN_add, show (2 : Int64) = lN 2 from rfl, pk_lDiv (by omega) (by omega) (by omega)]
      have hm : (a + b) / 2 < b ∧ a ≤ (a + b) / 2 := by omega
      have tm : ((lN a + lN b) / 2).toInt = ((a + b) / 2 : Nat) := by rw [em]; exact pk_lT (by omega)
      have sb := (smN_bd (kd := kd) (at' := at') (n := (a + b) / 2) hw).1
      have esm : dSmear (xL x) ((lN a + lN b) / 2) = lN (smN kd at' tk wi ((a + b) / 2)) := by rw [em, hL]; exact dSmear_N ha ht hw hw2 (by omega)
      have e1 : lN ((a + b) / 2 + 1) = (lN a + lN b) / 2 + 1 := by rw [em]; exact (lN_1 _).symm
      conv => whnf
      refine ⟨by decide, ?_⟩
      conv => whnf
      refine ⟨trivial, m_smear I (by rw [tm]; omega) (by rw [tm]; omega) ?_⟩
      conv => whnf
      refine ⟨fun q2 => ?_, fun q2 => ?_⟩
      · have q2' : dSmear (xL x) ((lN a + lN b) / 2) < lN v := q2
        rw [esm] at q2'
        have q3 := (pk_lLT (by omega) (by omega)).mp q2'
        have nx := fun o7 o8 => ih ((a + b) / 2 + 1) b o7 o8 (by omega) (by omega) h3 (isL_low hw q3) h5
        rw [e1] at nx
        conv => whnf
        refine ⟨trivial, ?_⟩
        exact nx _ _
      · have q2' : ¬ dSmear (xL x) ((lN a + lN b) / 2) < lN v := q2
        rw [esm] at q2'
        have q3 : ¬ smN kd at' tk wi ((a + b) / 2) < v := fun z => q2' ((pk_lLT (by omega) (by omega)).mpr z)
        have nx := fun o7 o8 => ih a ((a + b) / 2) o7 o8 (by omega) (by omega) (by omega) h4 (by omega)
        rw [← em] at nx
        conv => whnf
        refine ⟨trivial, ?_⟩
        exact nx _ _
theorem m_back {E : pm_E} {Q : pm_Q} {x y : zD} {m : zN} {k : Nat} {t : Int64} (I : Inv k x m) (h : Q (some (.long (dBk (xL x) t))) (mkH y m)) : Sm E n_X9_back 0 (pl_entry 9 [.ref 92, .long t], [], mkH y m, 0, 0) Q := by
  refine pm_go (aX9_back E) 100 rfl ?_
  conv => whnf
  refine ⟨trivial, m_within (fun q => ?_) (fun q => ?_)⟩
  · obtain ⟨b1, b2⟩ := okT_int q
    have e : dBk (xL x) t = _ := if_pos q
    rw [e] at h
    obtain ⟨at', tk, wi, hL, ha, ht1, ht, hw, hw2⟩ := leap_N I.2.1.2
    obtain ⟨v, hv, rfl⟩ := pk_lOf (x := t) (fun z => by have := Int64.lt_iff_toInt_lt.mp z; have z0 : (0 : Int64).toInt = 0 := (by decide); omega)
    rw [pk_lT hv] at b2
    obtain ⟨r, er, hr⟩ := dBack_spec (v := v) hL ha ht hw hw2 (by omega)
    rw [er] at h
    conv => whnf
    refine ⟨fun _ => ?_, fun z => absurd z (by decide)⟩
    conv => whnf
    refine ⟨trivial, ?_⟩
    have nx := l_backM (E := E) (Q := Q) (y := y) I hL ha ht hw hw2 (v := v) (by omega) (fun r' hr' => by rw [isL_uniq hr' hr]; exact h) (v + 1000) 0 (v + 1000) none none (by omega) (by omega) (by omega) (fun t h => absurd h (Nat.not_lt_zero _)) (by
      have := (smN_bd (kd := (xL x).2.2.2) (at' := at') (n := v + 1000) hw).2
      omega)
    rw [← lN_add v 1000] at nx
    exact nx
  · have e : dBk (xL x) t = -1 := if_neg q
    rw [e] at h
    conv => whnf
    refine ⟨fun z => absurd rfl z, fun _ => ?_⟩
    conv => whnf
    exact ⟨trivial, h⟩
