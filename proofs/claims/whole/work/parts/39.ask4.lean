/-! ===== the reference: between, the leap, count ===== -/
theorem l_btwM {E : pm_E} {Q : pm_Q} {y : zD} {m : zN} {S : zS} {s : Nat} {ke : Int32} {a b : Int64} (hR : RS S (mN m)) (hs : cSz S.2.1 = nI s) (hs16 : s ≤ 16) (h : Q (some (.int (nI (nF ke a b S.2.1 s)))) (mkH y m)) : ∀ (n i : Nat) (o8 : Option Value), i + n = s → Sm E n_X9_between 45 ([some (.ref 92), some (.int ke), some (.long a), none, some (.long b), none, some (.int (nI (nF ke a b S.2.1 i))), some (.int (nI i)), o8], [], mkH y m, 0, 0) Q := by
  have f3 : mN m 3 = (nI s).toInt64 := by rw [hR.1.2.2.2, hs]
  intro n
  induction n with
  | zero =>
    intro i o8 hi
    obtain rfl : i = s := by omega
    refine pm_lp (aX9_between E) 100 45 rfl ?_
    conv => whnf
    refine ⟨inA (n := 3) (by decide) (by decide), ?_⟩
    conv => whnf
    refine ⟨fun _ => ?_, fun q => absurd (show mN m 3 ≤ (nI i).toInt64 by rw [f3]; exact Int64.le_refl _) q⟩
    conv => whnf
    exact ⟨trivial, h⟩
  | succ n ih =>
    intro i o8 hi
    have x0 : (28 : Int32) + 5 * nI i = nI (28 + 5 * i) := ix28
    have c0 : ((28 : Int32) + 5 * nI i).toNatClampNeg = 28 + 5 * i := by rw [x0]; exact cl (by omega)
    have c2 : ((28 : Int32) + 5 * nI i + 2).toNatClampNeg = 28 + 5 * i + 2 := by rw [ix282]; exact cl (by omega)
    have i0 : vp_in ((28 : Int32) + 5 * nI i) 108 := by rw [x0]; exact inA (by omega) (by decide)
    have i2 : vp_in ((28 : Int32) + 5 * nI i + 2) 108 := by rw [ix282]; exact inA (by omega) (by decide)
    obtain ⟨r0, r1, r2, -, -⟩ := hR.2.2 i (by rw [hs, cl (by omega)]; omega)
    have nx := fun o8 => ih (i + 1) o8 (by omega)
    rw [nI_succ, nF] at nx
    have no : ¬ ((ke = -1 ∨ S.2.1.1 i = ke) ∧ a ≤ S.2.1.2.2.1 i ∧ S.2.1.2.2.1 i ≤ b) → ∀ o8 : Option Value, Sm E n_X9_between 45 ([some (.ref 92), some (.int ke), some (.long a), none, some (.long b), none, some (.int (nI (nF ke a b S.2.1 i) + 0)), some (.int (nI i + 1)), o8], [], mkH y m, 0, 0) Q := fun z o8 => by
      rw [if_neg z] at nx
      rw [Int32.add_zero]
      exact nx o8
    have yes : ((ke = -1 ∨ S.2.1.1 i = ke) ∧ a ≤ S.2.1.2.2.1 i ∧ S.2.1.2.2.1 i ≤ b) → ∀ o8 : Option Value, Sm E n_X9_between 45 ([some (.ref 92), some (.int ke), some (.long a), none, some (.long b), none, some (.int (nI (nF ke a b S.2.1 i) + 1)), some (.int (nI i + 1)), o8], [], mkH y m, 0, 0) Q := fun z o8 => by
      rw [if_pos z, nI_succ] at nx
      exact nx o8
    have ev : mN m ((28 : Int32) + 5 * nI i + 2).toNatClampNeg = S.2.1.2.2.1 i := by rw [c2, r2]
    refine pm_lp (aX9_between E) 100 45 rfl ?_
    conv => whnf
    refine ⟨inA (n := 3) (by decide) (by decide), ?_⟩
    conv => whnf
    refine ⟨fun q => absurd (show mN m 3 ≤ (nI i).toInt64 from q) (by rw [f3, t64_le]; exact nI_ge (by omega) (by omega)), fun _ => ?_⟩
    conv => whnf
    refine ⟨fun q => ?_, fun q => ?_⟩
    · have q' : ke = -1 := q
      conv => whnf
      refine ⟨i2, ?_⟩
      conv => whnf
      refine ⟨trivial, m_within (fun q2 => ?_) (fun q2 => ?_)⟩
      · have q2' : a ≤ mN m ((28 : Int32) + 5 * nI i + 2).toNatClampNeg ∧ mN m ((28 : Int32) + 5 * nI i + 2).toNatClampNeg ≤ b := q2
        rw [ev] at q2'
        conv => whnf
        refine ⟨fun z => absurd z (by decide), fun _ => ?_⟩
        conv => whnf
        refine ⟨trivial, ?_⟩
        exact yes ⟨Or.inl q', q2'⟩ _
      · have q2' : ¬ (a ≤ mN m ((28 : Int32) + 5 * nI i + 2).toNatClampNeg ∧ mN m ((28 : Int32) + 5 * nI i + 2).toNatClampNeg ≤ b) := q2
        rw [ev] at q2'
        conv => whnf
        refine ⟨fun _ => ?_, fun z => absurd rfl z⟩
        conv => whnf
        refine ⟨trivial, ?_⟩
        exact no (fun z => q2' z.2) _
    · have q' : ¬ ke = -1 := q
      conv => whnf
      refine ⟨i0, ?_⟩
      conv => whnf
      refine ⟨fun q3 => ?_, fun q3 => ?_⟩
      · have q3' : ¬ mN m ((28 : Int32) + 5 * nI i).toNatClampNeg = ke.toInt64 := q3
        rw [c0, r0, t64_inj] at q3'
        conv => whnf
        refine ⟨trivial, ?_⟩
        exact no (fun z => z.1.elim q' q3') _
      · have q3' : mN m ((28 : Int32) + 5 * nI i).toNatClampNeg = ke.toInt64 := q3
        rw [c0, r0, t64_inj] at q3'
        conv => whnf
        refine ⟨i2, ?_⟩
        conv => whnf
        refine ⟨trivial, m_within (fun q2 => ?_) (fun q2 => ?_)⟩
        · have q2' : a ≤ mN m ((28 : Int32) + 5 * nI i + 2).toNatClampNeg ∧ mN m ((28 : Int32) + 5 * nI i + 2).toNatClampNeg ≤ b := q2
          rw [ev] at q2'
          conv => whnf
          refine ⟨fun z => absurd z (by decide), fun _ => ?_⟩
          conv => whnf
          refine ⟨trivial, ?_⟩
          exact yes ⟨Or.inr q3', q2'⟩ _
        · have q2' : ¬ (a ≤ mN m ((28 : Int32) + 5 * nI i + 2).toNatClampNeg ∧ mN m ((28 : Int32) + 5 * nI i + 2).toNatClampNeg ≤ b) := q2
          rw [ev] at q2'
          conv => whnf
          refine ⟨fun _ => ?_, fun z => absurd rfl z⟩
          conv => whnf
          refine ⟨trivial, ?_⟩
          exact no (fun z => q2' z.2) _
theorem km1 {k : Int32} : (-1 ≤ k.toInt64 ∧ k.toInt64 ≤ 5) ↔ (k = -1 ∨ (0 ≤ k ∧ k < 6)) := by
  rw [Int64.le_iff_toInt_le, Int64.le_iff_toInt_le, Int32.toInt_toInt64, ← Int32.toInt_inj, Int32.le_iff_toInt_le, Int32.lt_iff_toInt_lt, show (5 : Int64).toInt = 5 by decide, show (-1 : Int64).toInt = -1 by decide, show (6 : Int32).toInt = 6 by decide, show (0 : Int32).toInt = 0 by decide, show (-1 : Int32).toInt = -1 by decide]
  omega
theorem m_between {E : pm_E} {Q : pm_Q} {x y : zD} {m : zN} {k : Nat} {ke : Int32} {a b : Int64} (I : Inv k x m) (h : Q (some (.int (dBtw (xC x) ke a b))) (mkH y m)) : Sm E n_X9_between 0 (pl_entry 9 [.ref 92, .int ke, .long a, .long b], [], mkH y m, 0, 0) Q := by
  have bad : ¬ ((ke = -1 ∨ (0 ≤ ke ∧ ke < 6)) ∧ okT a ∧ okT b ∧ a ≤ b) → Q (some (.int (-1))) (mkH y m) := fun z' => by
    have e : dBtw (xC x) ke a b = -1 := if_neg z'
    rw [e] at h
    exact h
  have hC := I.2.2.2.1.1
  obtain ⟨d, s, g1, g2, g3, g4, -⟩ := hC
  refine pm_go (aX9_between E) 100 rfl ?_
  conv => whnf
  refine ⟨trivial, m_within (fun q => ?_) (fun q => ?_)⟩
  · conv => whnf
    refine ⟨fun z => absurd z (by decide), fun _ => ?_⟩
    conv => whnf
    refine ⟨trivial, m_within (fun q2 => ?_) (fun q2 => ?_)⟩
    · conv => whnf
      refine ⟨fun z => absurd z (by decide), fun _ => ?_⟩
      conv => whnf
      refine ⟨trivial, m_within (fun q3 => ?_) (fun q3 => ?_)⟩
      · have e : dBtw (xC x) ke a b = _ := if_pos ⟨km1.mp q, q2, ⟨Int64.le_trans q2.1 q3.1, q3.2⟩, q3.1⟩
        rw [e, g3, cl (n := s) (by omega)] at h
        conv => whnf
        refine ⟨fun _ => ?_, fun z => absurd z (by decide)⟩
        conv => whnf
        refine ⟨trivial, ?_⟩
        exact l_btwM (S := xS x) I.2.2.1 g3 g2 h s 0 none (by omega)
      · conv => whnf
        refine ⟨fun z => absurd rfl z, fun _ => ?_⟩
        conv => whnf
        exact ⟨trivial, bad (fun z => q3 ⟨z.2.2.2, z.2.2.1.2⟩)⟩
    · conv => whnf
      refine ⟨fun _ => ?_, fun z => absurd rfl z⟩
      conv => whnf
      exact ⟨trivial, bad (fun z => q2 z.2.1)⟩
  · conv => whnf
    refine ⟨fun _ => ?_, fun z => absurd rfl z⟩
    conv => whnf
    exact ⟨trivial, bad (fun z => q (km1.mpr z.1))⟩
theorem w03 {w : Int32} : (0 ≤ w.toInt64 ∧ w.toInt64 ≤ 3) ↔ ∃ j : Nat, j < 4 ∧ w = nI j := by
  rw [show (0 : Int64) = (0 : Int32).toInt64 by decide, show (3 : Int64) = (3 : Int32).toInt64 by decide, t64_le, t64_le]
  constructor
  · intro h
    obtain ⟨j, hj, e⟩ := nI_of2 (x := w) (M := 3) (n := 3) (by decide) (Int32.not_lt.mpr h.1) h.2
    exact ⟨j, by omega, e⟩
  · rintro ⟨j, hj, e⟩
    rw [e]
    exact ⟨nI_pos' (by omega), nI_le (b := 3) (by omega) (by omega)⟩
theorem m_leap {E : pm_E} {Q : pm_Q} {x y : zD} {m : zN} {k : Nat} {w : Int32} (I : Inv k x m) (h : Q (some (.long (dLeap (xL x) w))) (mkH y m)) : Sm E n_X9_leap 0 (pl_entry 2 [.ref 92, .int w], [], mkH y m, 0, 0) Q := by
  obtain ⟨l0, l1, l2, l3⟩ := I.2.1.1
  refine pm_go (aX9_leap E) 100 rfl ?_
  conv => whnf
  refine ⟨trivial, m_within (fun q => ?_) (fun q => ?_)⟩
  · obtain ⟨j, hj, rfl⟩ := w03.mp q
    have e : mL m (nI j).toNatClampNeg = dLeap (xL x) (nI j) := by
      rw [cl (by omega)]
      unfold dLeap
      match j, hj with
      | 0, _ => rw [if_pos (by decide)]; exact l0
      | 1, _ => rw [if_neg (by decide), if_pos (by decide)]; exact l1
      | 2, _ => rw [if_neg (by decide), if_neg (by decide), if_pos (by decide)]; exact l2
      | 3, _ => rw [if_neg (by decide), if_neg (by decide), if_neg (by decide), if_pos (by decide)]; exact l3
    rw [← e] at h
    conv => whnf
    refine ⟨fun z => absurd z (by decide), fun _ => ?_⟩
    conv => whnf
    refine ⟨inA (by omega) (by decide), ?_⟩
    conv => whnf
    exact ⟨trivial, h⟩
  · have nn : ∀ j, j < 4 → ¬ w = nI j := fun j hj z => q (w03.mpr ⟨j, hj, z⟩)
    have e : dLeap (xL x) w = -1 := by
      unfold dLeap
      rw [if_neg (show ¬ w = 0 from nn 0 (by omega)), if_neg (show ¬ w = 1 from nn 1 (by omega)), if_neg (show ¬ w = 2 from nn 2 (by omega)), if_neg (show ¬ w = 3 from nn 3 (by omega))]
    rw [e] at h
    conv => whnf
    refine ⟨fun _ => ?_, fun z => absurd rfl z⟩
    conv => whnf
    exact ⟨trivial, h⟩
theorem okL_int {L : zL} (h : okLeap L.1 L.2.1 L.2.2.1 L.2.2.2) : (0 ≤ L.1.toInt ∧ L.1.toInt ≤ 1000000000000) ∧ (1 ≤ L.2.1.toInt ∧ L.2.1.toInt ≤ 1000) ∧ (L.2.1.toInt < L.2.2.1.toInt ∧ L.2.2.1.toInt ≤ 1000000000) := by
  obtain ⟨⟨a1, a2⟩, ⟨b1, b2⟩, ⟨c1, c2⟩, -⟩ := h
  rw [Int64.le_iff_toInt_le] at a1 a2 b1 b2 c2
  rw [Int64.lt_iff_toInt_lt] at c1
  rw [show (0 : Int64).toInt = 0 by decide] at a1
  rw [show (1000000000000 : Int64).toInt = 1000000000000 by decide] at a2
  rw [show (1 : Int64).toInt = 1 by decide] at b1
  rw [show (1000 : Int64).toInt = 1000 by decide] at b2
  rw [show (1000000000 : Int64).toInt = 1000000000 by decide] at c2
  exact ⟨⟨a1, a2⟩, ⟨b1, b2⟩, ⟨c1, c2⟩⟩
theorem m_smear {E : pm_E} {Q : pm_Q} {x y : zD} {m : zN} {k : Nat} {t : Int64} (I : Inv k x m) (t1 : 0 ≤ t.toInt) (t2 : t.toInt ≤ 3000000000000) (h : Q (some (.long (dSmear (xL x) t))) (mkH y m)) : Sm E n_X9_smear 0 (pl_entry 7 [.ref 92, .long t], [], mkH y m, 0, 0) Q := by
  obtain ⟨l0, l1, l2, l3⟩ := I.2.1.1
  obtain ⟨⟨a1, a2⟩, ⟨b1, b2⟩, ⟨c1, c2⟩⟩ := okL_int I.2.1.2
  have eg : (t - (xL x).1).toInt = t.toInt - (xL x).1.toInt := i64_sub (by omega) (by omega)
  have es : ((xL x).1 + (xL x).2.2.1).toInt = (xL x).1.toInt + (xL x).2.2.1.toInt := i64_add (by omega) (by omega)
  have q1 : 0 < t - (xL x).1 ↔ ¬ t ≤ (xL x).1 := by
    rw [Int64.lt_iff_toInt_lt, Int64.le_iff_toInt_le, eg, show (0 : Int64).toInt = 0 by decide]
    omega
  have q2 : t - (xL x).1 < (xL x).2.2.1 ↔ ¬ ((xL x).1 + (xL x).2.2.1 ≤ t ∨ (xL x).2.2.1 ≤ 0) := by
    rw [Int64.lt_iff_toInt_lt, Int64.le_iff_toInt_le, Int64.le_iff_toInt_le, eg, es, show (0 : Int64).toInt = 0 by decide]
    omega
  have ne : ¬ (xL x).2.2.1 = 0 := fun z => by
    have := congrArg Int64.toInt z
    rw [show (0 : Int64).toInt = 0 by decide] at this
    omega
  rw [← l0] at q1
  rw [← l0, ← l2] at q2
  unfold dSmear at h
  have k0 : ∀ v : Int64, v = dShift (xL x) t → ((¬ mL m 3 = 0 → Q (some (.long (t - v))) (mkH y m)) ∧ (mL m 3 = 0 → Q (some (.long (t + v))) (mkH y m))) := fun v hv => by
    subst hv
    rw [l3]
    exact ⟨fun z => by rw [if_neg z] at h; exact h, fun z => by rw [if_pos z] at h; exact h⟩
  unfold dShift at k0
  rw [← l0, ← l1, ← l2] at k0
  refine pm_go (aX9_smear E) 100 rfl ?_
  conv => whnf
  refine ⟨inA (n := 0) (by decide) (by decide), ?_⟩
  conv => whnf
  refine ⟨fun q => ?_, fun q => ?_⟩
  · have q' : 0 < t - mL m 0 := q
    have n1 := q1.mp q'
    conv => whnf
    refine ⟨inA (n := 2) (by decide) (by decide), ?_⟩
    conv => whnf
    refine ⟨fun q3 => ?_, fun q3 => ?_⟩
    · have q3' : t - mL m 0 < mL m 2 := q3
      have n2 := q2.mp q3'
      have k1 := k0 (mL m 1 * (t - mL m 0) / mL m 2) (by rw [if_neg n1, if_neg n2])
      conv => whnf
      refine ⟨inA (n := 1) (by decide) (by decide), ?_⟩
      conv => whnf
      refine ⟨inA (n := 2) (by decide) (by decide), ?_⟩
      conv => whnf
      refine ⟨by show ¬ mL m 2 = 0; rw [l2]; exact ne, ?_⟩
      conv => whnf
      refine ⟨inA (n := 3) (by decide) (by decide), ?_⟩
      conv => whnf
      refine ⟨fun q4 => ?_, fun q4 => ?_⟩
      · conv => whnf
        exact ⟨trivial, k1.1 q4⟩
      · conv => whnf
        exact ⟨trivial, k1.2 q4⟩
    · have q3' : ¬ t - mL m 0 < mL m 2 := q3
      have n2 := Classical.not_not.mp (fun z => q3' (q2.mpr z))
      have k1 := k0 (mL m 1) (by rw [if_neg n1, if_pos n2])
      conv => whnf
      refine ⟨inA (n := 1) (by decide) (by decide), ?_⟩
      conv => whnf
      refine ⟨inA (n := 3) (by decide) (by decide), ?_⟩
      conv => whnf
      refine ⟨fun q4 => ?_, fun q4 => ?_⟩
      · conv => whnf
        exact ⟨trivial, k1.1 q4⟩
      · conv => whnf
        exact ⟨trivial, k1.2 q4⟩
  · have q' : ¬ 0 < t - mL m 0 := q
    have n1 := Classical.not_not.mp (fun z => q' (q1.mpr z))
    have k1 := k0 0 (by rw [if_pos n1])
    conv => whnf
    refine ⟨inA (n := 3) (by decide) (by decide), ?_⟩
    conv => whnf
    refine ⟨fun q4 => ?_, fun q4 => ?_⟩
    · conv => whnf
      exact ⟨trivial, k1.1 q4⟩
    · conv => whnf
      exact ⟨trivial, k1.2 q4⟩
theorem okT_int {t : Int64} (h : okT t) : 0 ≤ t.toInt ∧ t.toInt ≤ 2000000000000 := by
  have h1 := Int64.le_iff_toInt_le.mp h.1
  have h2 := Int64.le_iff_toInt_le.mp h.2
  rw [show (0 : Int64).toInt = 0 by decide] at h1
  rw [show (2000000000000 : Int64).toInt = 2000000000000 by decide] at h2
  exact ⟨h1, h2⟩
theorem m_smeared {E : pm_E} {Q : pm_Q} {x y : zD} {m : zN} {k : Nat} {t : Int64} (I : Inv k x m) (h : Q (some (.long (dSmeared (xL x) t))) (mkH y m)) : Sm E n_X9_smeared 0 (pl_entry 3 [.ref 92, .long t], [], mkH y m, 0, 0) Q := by
  refine pm_go (aX9_smeared E) 100 rfl ?_
  conv => whnf
  refine ⟨trivial, m_within (fun q => ?_) (fun q => ?_)⟩
  · have hb := okT_int q
    have e : dSmeared (xL x) t = _ := if_pos q
    rw [e] at h
    conv => whnf
    refine ⟨fun z => absurd z (by decide), fun _ => ?_⟩
    conv => whnf
    refine ⟨trivial, m_smear I hb.1 (by omega) ?_⟩
    conv => whnf
    exact ⟨trivial, h⟩
  · have e : dSmeared (xL x) t = -2000000000000 := if_neg q
    rw [e] at h
    conv => whnf
    refine ⟨fun _ => ?_, fun z => absurd rfl z⟩
    conv => whnf
    exact ⟨trivial, h⟩
theorem m_count {E : pm_E} {Q : pm_Q} {x y : zD} {m : zN} {k : Nat} {w : Int32} (I : Inv k x m) (h : Q (some (.int (dCount x w))) (mkH y m)) : Sm E n_X9_count 0 (pl_entry 2 [.ref 92, .int w], [], mkH y m, 0, 0) Q := by
  obtain ⟨e0, e1, e2, e3⟩ := I.2.2.1.1
  have b0 : (mN m 0).toInt32 = (xS x).2.2 := by rw [e0]; exact t64_back _
  have b1 : (mN m 1).toInt32 = (xS x).1.2.2.2.2.2 := by rw [e1]; exact t64_back _
  have b2 : (mN m 2).toInt32 = (xS x).1.2.2.2.2.1 := by rw [e2]; exact t64_back _
  have b3 : (mN m 3).toInt32 = cSz (xC x) := by rw [e3]; exact t64_back _
  obtain ⟨i, c, hi, hc, h1, h2, h5, h6⟩ := I.2.2.2.2
  obtain ⟨hC, loc, hl, hWM⟩ := I.2.2.2.1
  have b6 : mK m = (xP x).2.2 := by rw [h5, h2]
  have b7 : mZ m = (xT x).2 := I.1.2.1
  unfold dCount at h
  refine pm_go (aX9_count E) 100 rfl ?_
  conv => whnf
  refine ⟨fun k t hk hw => ?_, fun hw => ?_⟩
  · match k, hk with
    | 0, hk =>
      cases hk
      obtain rfl : w = 0 := hw
      rw [if_pos rfl, ← b0] at h
      conv => whnf
      refine ⟨inA (n := 0) (by decide) (by decide), ?_⟩
      conv => whnf
      exact ⟨trivial, h⟩
    | 1, hk =>
      cases hk
      obtain rfl : w = 1 := hw
      rw [if_neg (by decide), if_pos rfl, ← b1] at h
      conv => whnf
      refine ⟨inA (n := 1) (by decide) (by decide), ?_⟩
      conv => whnf
      exact ⟨trivial, h⟩
    | 2, hk =>
      cases hk
      obtain rfl : w = 2 := hw
      rw [if_neg (by decide), if_neg (by decide), if_pos rfl] at h
      conv => whnf
      refine ⟨trivial, m_many (S := xS x) hWM I.2.2.1 ?_⟩
      conv => whnf
      exact ⟨trivial, h⟩
    | 3, hk =>
      cases hk
      obtain rfl : w = 3 := hw
      obtain ⟨dr, w1, w2, a1, a2, a3, a4, a5, a6, a7, a8⟩ := hWM
      rw [if_neg (by decide), if_neg (by decide), if_neg (by decide), if_pos rfl, ← b2] at h
      conv => whnf
      refine ⟨inA (n := 2) (by decide) (by decide), ?_⟩
      conv => whnf
      refine ⟨trivial, m_ones (w := w2) (by show (mN m 2).toInt32 = _; rw [b2, a5]) a6 ?_⟩
      conv => whnf
      exact ⟨trivial, h⟩
    | 4, hk =>
      cases hk
      obtain rfl : w = 4 := hw
      rw [if_neg (by decide), if_neg (by decide), if_neg (by decide), if_neg (by decide), if_pos rfl, ← b3] at h
      conv => whnf
      refine ⟨inA (n := 3) (by decide) (by decide), ?_⟩
      conv => whnf
      exact ⟨trivial, h⟩
    | 5, hk =>
      cases hk
      obtain rfl : w = 5 := hw
      rw [if_neg (by decide), if_neg (by decide), if_neg (by decide), if_neg (by decide), if_neg (by decide), if_pos rfl] at h
      conv => whnf
      refine ⟨trivial, m_open (S := xS x) hC I.2.2.1 ?_⟩
      conv => whnf
      exact ⟨trivial, h⟩
    | 6, hk =>
      cases hk
      obtain rfl : w = 6 := hw
      rw [if_neg (by decide), if_neg (by decide), if_neg (by decide), if_neg (by decide), if_neg (by decide), if_neg (by decide), if_pos rfl, ← b6] at h
      conv => whnf
      exact ⟨trivial, h⟩
    | 7, hk =>
      cases hk
      obtain rfl : w = 7 := hw
      rw [if_neg (by decide), if_neg (by decide), if_neg (by decide), if_neg (by decide), if_neg (by decide), if_neg (by decide), if_neg (by decide), if_pos rfl, ← b7] at h
      conv => whnf
      exact ⟨trivial, h⟩
    | k + 8, hk => simp at hk
  · have n0 : ∀ j : Nat, j < 8 → ¬ w = nI j := by
      intro j hj e
      rw [e] at hw
      rcases hw with z | z
      · exact nI_pos (by omega) z
      · exact nI_ge (b := 8) hj (by decide) z
    rw [if_neg (show ¬ w = 0 from n0 0 (by omega)), if_neg (show ¬ w = 1 from n0 1 (by omega)), if_neg (show ¬ w = 2 from n0 2 (by omega)), if_neg (show ¬ w = 3 from n0 3 (by omega)), if_neg (show ¬ w = 4 from n0 4 (by omega)), if_neg (show ¬ w = 5 from n0 5 (by omega)), if_neg (show ¬ w = 6 from n0 6 (by omega)), if_neg (show ¬ w = 7 from n0 7 (by omega))] at h
    conv => whnf
    exact ⟨trivial, h⟩
