/-! ===== the reference: safe, read, between ===== -/
theorem l_safe {E : pm_E} {Q : pm_Q} {y : zD} {m : zN} {k : Nat} {S : zS} {d s : Nat} (hW : WF k S) (hR : RS S (mN m)) (hk : k ≤ 512) (hs : cSz S.2.1 = nI s) (hd : cDn S.2.1 = nI d) (hs16 : s ≤ 16) (hds : d ≤ s) (h : ∀ F', Q (some (.long (dSafe S))) (mkH y (tF m F'))) : ∀ (n i : Nat) (o4 : Option Value), i + n = s → Sm E n_X9_safeNow 6 ([some (.ref 92), some (.long (if d < i then S.2.1.2.2.1 d else 8000000000000)), none, some (.int (nI i)), o4], [], mkH y m, 0, 0) Q := by
  have f3 : mN m 3 = (nI s).toInt64 := by rw [hR.1.2.2.2, hs]
  have hC := hW.1
  have hbd : ∀ c, c < s → (S.2.1.2.2.1 c).toInt ≤ 1100000000000 + c := by
    obtain ⟨d2, s2, b1, b2, b3, b4, b5, b6, b7⟩ := hC
    have es : s2 = s := (nI_eq (by omega) (by omega)).mp (by rw [← b3, hs])
    subst es
    exact fun c hc => (b5 c hc).2.2.2.2
  have hmo : ∀ c, d ≤ c → c < s → (S.2.1.2.2.1 d).toInt ≤ (S.2.1.2.2.1 c).toInt := by
    obtain ⟨d2, s2, b1, b2, b3, b4, b5, b6, b7⟩ := hC
    have es : s2 = s := (nI_eq (by omega) (by omega)).mp (by rw [← b3, hs])
    subst es
    intro c c1 c2
    have := st_mono b6 (c - d) d (by omega)
    rw [show d + (c - d) = c by omega] at this
    exact this
  intro n
  induction n with
  | zero =>
    intro i o4 hi
    obtain rfl : i = s := by omega
    refine pm_lp (aX9_safeNow E) 100 6 rfl ?_
    conv => whnf
    refine ⟨inA (n := 3) (by decide) (by decide), ?_⟩
    conv => whnf
    refine ⟨fun _ => ?_, fun q => absurd (show mN m 3 ≤ (nI i).toInt64 by rw [f3]; exact Int64.le_refl _) q⟩
    conv => whnf
    refine ⟨trivial, m_open hC hR ?_⟩
    conv => whnf
    refine ⟨fun q => ?_, fun q => ?_⟩
    · have q' : cSz S.2.1 - cDn S.2.1 ≤ 0 := q
      have e : dSafe S = _ := if_neg (Int32.not_lt.mpr q')
      rw [e] at h
      conv => whnf
      refine ⟨inA (n := 0) (by decide) (by decide), ?_⟩
      conv => whnf
      refine ⟨trivial, m_findI hW hR hk (fun F' hF => ?_)⟩
      have h := h F'
      conv => whnf
      refine ⟨trivial, m_latest (m := tF m F') (S := S) hC.ok hR ?_⟩
      conv => whnf
      refine ⟨trivial, m_good (m := tF m F') hF (fun hg => ?_) (fun hg => ?_)⟩
      · have eb := (hF.2.2 (okG_ne hg)).1
        rw [if_pos hg, ← eb] at h
        conv => whnf
        refine ⟨fun z => absurd z (by decide), fun _ => ?_⟩
        conv => whnf
        refine ⟨fun q2 => ?_, fun q2 => ?_⟩
        · have q2' : F'.2.2.2.2.1 - 1 ≤ dLast S.2.1 := q2
          rw [if_neg (Int64.not_lt.mpr q2')] at h
          conv => whnf
          exact ⟨trivial, h⟩
        · have q2' : ¬ F'.2.2.2.2.1 - 1 ≤ dLast S.2.1 := q2
          rw [if_pos (Int64.not_le.mp q2')] at h
          conv => whnf
          exact ⟨trivial, h⟩
      · rw [if_neg hg] at h
        conv => whnf
        refine ⟨fun _ => ?_, fun z => absurd rfl z⟩
        conv => whnf
        exact ⟨trivial, h⟩
    · have q' : ¬ cSz S.2.1 - cDn S.2.1 ≤ 0 := q
      have e : dSafe S = _ := if_pos (Int32.not_le.mp q')
      have hlt : d < i := by
        rcases Nat.lt_or_ge d i with z | z
        · exact z
        · exact absurd (show cSz S.2.1 - cDn S.2.1 ≤ 0 by rw [hs, hd, nI_sub hds, show i - d = 0 by omega]; decide) q'
      rw [e, hd, cl (n := d) (by omega)] at h
      have h := h (mF m)
      rw [if_pos hlt]
      conv => whnf
      exact ⟨trivial, h⟩
  | succ n ih =>
    intro i o4 hi
    have c4 : ((28 : Int32) + 5 * nI i + 4).toNatClampNeg = 28 + 5 * i + 4 := by rw [ix284]; exact cl (by omega)
    have c2 : ((28 : Int32) + 5 * nI i + 2).toNatClampNeg = 28 + 5 * i + 2 := by rw [ix282]; exact cl (by omega)
    have i4 : vp_in ((28 : Int32) + 5 * nI i + 4) 108 := by rw [ix284]; exact inA (by omega) (by decide)
    have i2 : vp_in ((28 : Int32) + 5 * nI i + 2) 108 := by rw [ix282]; exact inA (by omega) (by decide)
    have hdn := hR.done (c := i) hC hs hd hs16 hds (by omega)
    have st : mN m (28 + 5 * i + 2) = S.2.1.2.2.1 i := (hR.2.2 i (by rw [hs, cl (by omega)]; omega)).2.2.1
    have nx := fun o4 => ih (i + 1) o4 (by omega)
    rw [nI_succ] at nx
    have t8 : (8000000000000 : Int64).toInt = 8000000000000 := by decide
    generalize hle : (if d < i then S.2.1.2.2.1 d else (8000000000000 : Int64)) = le
    refine pm_lp (aX9_safeNow E) 100 6 rfl ?_
    conv => whnf
    refine ⟨inA (n := 3) (by decide) (by decide), ?_⟩
    conv => whnf
    refine ⟨fun q => absurd (show mN m 3 ≤ (nI i).toInt64 from q) (by rw [f3, t64_le]; exact nI_ge (by omega) (by omega)), fun _ => ?_⟩
    conv => whnf
    refine ⟨i4, ?_⟩
    conv => whnf
    refine ⟨fun q => ?_, fun q => ?_⟩
    · have q' : ¬ mN m ((28 : Int32) + 5 * nI i + 4).toNatClampNeg = -4 := q
      rw [c4, hdn] at q'
      have e : (if d < i + 1 then S.2.1.2.2.1 d else (8000000000000 : Int64)) = le := by rw [← hle, if_neg (by omega), if_neg (by omega)]
      rw [e] at nx
      conv => whnf
      refine ⟨trivial, ?_⟩
      exact nx _
    · have q' : mN m ((28 : Int32) + 5 * nI i + 4).toNatClampNeg = -4 := q
      rw [c4, hdn] at q'
      conv => whnf
      refine ⟨i2, ?_⟩
      conv => whnf
      refine ⟨fun q2 => ?_, fun q2 => ?_⟩
      · have q2' : le ≤ mN m ((28 : Int32) + 5 * nI i + 2).toNatClampNeg := q2
        rw [c2, st] at q2'
        have q3 := Int64.le_iff_toInt_le.mp q2'
        have e : (if d < i + 1 then S.2.1.2.2.1 d else (8000000000000 : Int64)) = le := by
          rw [← hle, if_pos (by omega)]
          by_cases u : d < i
          · rw [if_pos u]
          · rw [if_neg u] at hle
            rw [← hle, t8] at q3
            have := hbd i (by omega)
            omega
        rw [e] at nx
        conv => whnf
        refine ⟨trivial, ?_⟩
        exact nx _
      · have q2' : ¬ le ≤ mN m ((28 : Int32) + 5 * nI i + 2).toNatClampNeg := q2
        have q4 := q2'
        rw [c2, st] at q2'
        have q3 := Int64.lt_iff_toInt_lt.mp (Int64.not_le.mp q2')
        have e : (if d < i + 1 then S.2.1.2.2.1 d else (8000000000000 : Int64)) = mN m ((28 : Int32) + 5 * nI i + 2).toNatClampNeg := by
          rw [if_pos (by omega), c2, st]
          by_cases u : d < i
          · rw [if_pos u] at hle
            rw [← hle] at q3
            have := hmo i (by omega) (by omega)
            omega
          · rw [show d = i by omega]
        rw [e] at nx
        conv => whnf
        refine ⟨i2, ?_⟩
        conv => whnf
        refine ⟨trivial, ?_⟩
        exact nx _
theorem m_safeNow {E : pm_E} {Q : pm_Q} {x y : zD} {m : zN} {k : Nat} (I : Inv k x m) (hk : k ≤ 512) (h : ∀ F', Q (some (.long (dSafe (xS x)))) (mkH y (tF m F'))) : Sm E n_X9_safeNow 0 (pl_entry 5 [.ref 92], [], mkH y m, 0, 0) Q := by
  have hC := I.2.2.2.1.1
  obtain ⟨d, s, g1, g2, g3, g4, -⟩ := hC
  refine pm_go (aX9_safeNow E) 100 rfl ?_
  conv => whnf
  refine ⟨trivial, ?_⟩
  have nx := l_safe (E := E) I.2.2.2.1 I.2.2.1 hk g3 g4 g2 g1 h s 0 none (by omega)
  rw [if_neg (Nat.not_lt_zero _)] at nx
  exact nx
theorem m_safe {E : pm_E} {Q : pm_Q} {x y : zD} {m : zN} {k : Nat} (I : Inv k x m) (hk : k ≤ 512) (h : ∀ m', Inv k x m' → Q (some (.long (dSafe (xS x)))) (mkH y m')) : Sm E n_X9_safe 0 (pl_entry 1 [.ref 92], [], mkH y m, 0, 0) Q := by
  refine pm_go (aX9_safe E) 100 rfl ?_
  conv => whnf
  refine ⟨trivial, m_safeNow I hk (fun F' => ?_)⟩
  conv => whnf
  exact ⟨trivial, h (tF m F') I⟩
theorem l_read {E : pm_E} {Q : pm_Q} {y : zD} {m : zN} {S : zS} {s : Nat} {ke : Int32} {t : Int64} (hR : RS S (mN m)) (hs : cSz S.2.1 = nI s) (hs16 : s ≤ 16) (h : Q (some (.int (vF ke t S.2.1 s))) (mkH y m)) : ∀ (n i : Nat) (o6 : Option Value), i + n = s → Sm E n_X9_read 44 ([some (.ref 92), some (.int ke), some (.long t), none, some (.int (vF ke t S.2.1 i)), some (.int (nI i)), o6], [], mkH y m, 0, 0) Q := by
  have f3 : mN m 3 = (nI s).toInt64 := by rw [hR.1.2.2.2, hs]
  intro n
  induction n with
  | zero =>
    intro i o6 hi
    obtain rfl : i = s := by omega
    refine pm_lp (aX9_read E) 100 44 rfl ?_
    conv => whnf
    refine ⟨inA (n := 3) (by decide) (by decide), ?_⟩
    conv => whnf
    refine ⟨fun _ => ?_, fun q => absurd (show mN m 3 ≤ (nI i).toInt64 by rw [f3]; exact Int64.le_refl _) q⟩
    conv => whnf
    exact ⟨trivial, h⟩
  | succ n ih =>
    intro i o6 hi
    have x0 : (28 : Int32) + 5 * nI i = nI (28 + 5 * i) := ix28
    have x1 : (28 : Int32) + 5 * nI i + 1 = nI (28 + 5 * i + 1) := ix28k (k := 1)
    have c0 : ((28 : Int32) + 5 * nI i).toNatClampNeg = 28 + 5 * i := by rw [x0]; exact cl (by omega)
    have c1 : ((28 : Int32) + 5 * nI i + 1).toNatClampNeg = 28 + 5 * i + 1 := by rw [x1]; exact cl (by omega)
    have c2 : ((28 : Int32) + 5 * nI i + 2).toNatClampNeg = 28 + 5 * i + 2 := by rw [ix282]; exact cl (by omega)
    have i0 : vp_in ((28 : Int32) + 5 * nI i) 108 := by rw [x0]; exact inA (by omega) (by decide)
    have i1 : vp_in ((28 : Int32) + 5 * nI i + 1) 108 := by rw [x1]; exact inA (by omega) (by decide)
    have i2 : vp_in ((28 : Int32) + 5 * nI i + 2) 108 := by rw [ix282]; exact inA (by omega) (by decide)
    obtain ⟨r0, r1, r2, -, -⟩ := hR.2.2 i (by rw [hs, cl (by omega)]; omega)
    have nx := fun o6 => ih (i + 1) o6 (by omega)
    rw [nI_succ, vF] at nx
    refine pm_lp (aX9_read E) 100 44 rfl ?_
    conv => whnf
    refine ⟨inA (n := 3) (by decide) (by decide), ?_⟩
    conv => whnf
    refine ⟨fun q => absurd (show mN m 3 ≤ (nI i).toInt64 from q) (by rw [f3, t64_le]; exact nI_ge (by omega) (by omega)), fun _ => ?_⟩
    conv => whnf
    refine ⟨i0, ?_⟩
    conv => whnf
    refine ⟨fun q => ?_, fun q => ?_⟩
    · have q' : ¬ mN m ((28 : Int32) + 5 * nI i).toNatClampNeg = ke.toInt64 := q
      rw [c0, r0, t64_inj] at q'
      rw [if_neg (fun z => q' z.1)] at nx
      conv => whnf
      refine ⟨trivial, ?_⟩
      exact nx _
    · have q' : mN m ((28 : Int32) + 5 * nI i).toNatClampNeg = ke.toInt64 := q
      rw [c0, r0, t64_inj] at q'
      conv => whnf
      refine ⟨i2, ?_⟩
      conv => whnf
      refine ⟨fun q2 => ?_, fun q2 => ?_⟩
      · have q2' : t < mN m ((28 : Int32) + 5 * nI i + 2).toNatClampNeg := q2
        rw [c2, r2] at q2'
        rw [if_neg (fun z => Int64.not_lt.mpr z.2 q2')] at nx
        conv => whnf
        refine ⟨trivial, ?_⟩
        exact nx _
      · have q2' : ¬ t < mN m ((28 : Int32) + 5 * nI i + 2).toNatClampNeg := q2
        rw [c2, r2] at q2'
        have e : (mN m ((28 : Int32) + 5 * nI i + 1).toNatClampNeg).toInt32 = S.2.1.2.1 i := by rw [c1, r1]; exact t64_back _
        rw [if_pos ⟨q', Int64.not_lt.mp q2'⟩, ← e] at nx
        conv => whnf
        refine ⟨i1, ?_⟩
        conv => whnf
        refine ⟨trivial, ?_⟩
        exact nx _
theorem m_read {E : pm_E} {Q : pm_Q} {x y : zD} {m : zN} {k : Nat} {ke : Int32} {t : Int64} (I : Inv k x m) (hk : k ≤ 512) (h : ∀ m', Inv k x m' → Q (some (.int (dRead (xS x) ke t))) (mkH y m')) : Sm E n_X9_read 0 (pl_entry 7 [.ref 92, .int ke, .long t], [], mkH y m, 0, 0) Q := by
  have bad : ¬ ((0 ≤ ke ∧ ke < 6) ∧ okT t) → Q (some (.int (-1))) (mkH y m) := fun z' => by
    have e : dRead (xS x) ke t = -1 := if_neg z'
    rw [e] at h
    exact h m I
  have hC := I.2.2.2.1.1
  obtain ⟨d, s, g1, g2, g3, g4, -⟩ := hC
  refine pm_go (aX9_read E) 100 rfl ?_
  conv => whnf
  refine ⟨trivial, m_within (fun q => ?_) (fun q => ?_)⟩
  · conv => whnf
    refine ⟨fun z => absurd z (by decide), fun _ => ?_⟩
    conv => whnf
    refine ⟨trivial, m_within (fun q2 => ?_) (fun q2 => ?_)⟩
    · have e : dRead (xS x) ke t = _ := if_pos ⟨k05.mp q, q2⟩
      rw [e] at h
      conv => whnf
      refine ⟨fun _ => ?_, fun z => absurd z (by decide)⟩
      conv => whnf
      refine ⟨trivial, m_safeNow I hk (fun F' => ?_)⟩
      have h := h (tF m F') I
      conv => whnf
      refine ⟨fun q3 => ?_, fun q3 => ?_⟩
      · rw [if_neg (Int64.not_lt.mpr q3), g3, cl (n := s) (by omega)] at h
        conv => whnf
        refine ⟨trivial, ?_⟩
        exact l_read (m := tF m F') (S := xS x) I.2.2.1 g3 g2 h s 0 none (by omega)
      · rw [if_pos (Int64.not_le.mp q3)] at h
        conv => whnf
        exact ⟨trivial, h⟩
    · conv => whnf
      refine ⟨fun z => absurd rfl z, fun _ => ?_⟩
      conv => whnf
      exact ⟨trivial, bad (fun z => q2 z.2)⟩
  · conv => whnf
    refine ⟨fun _ => ?_, fun z => absurd rfl z⟩
    conv => whnf
    exact ⟨trivial, bad (fun z => q (k05.mpr z.1))⟩
