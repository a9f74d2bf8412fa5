/-! ===== the reference: commit ===== -/
theorem k05 {k : Int32} : (0 ≤ k.toInt64 ∧ k.toInt64 ≤ 5) ↔ (0 ≤ k ∧ k < 6) := by
  rw [show (0 : Int64) = (0 : Int32).toInt64 by decide, show (5 : Int64) = (5 : Int32).toInt64 by decide, t64_le, t64_le, Int32.le_iff_toInt_le (y := 5), Int32.lt_iff_toInt_lt, show (5 : Int32).toInt = 5 by decide, show (6 : Int32).toInt = 6 by decide]
  constructor <;> intro h <;> exact ⟨h.1, by have := h.2; omega⟩
theorem v999 {v : Int32} : (0 ≤ v.toInt64 ∧ v.toInt64 ≤ 999999) ↔ (0 ≤ v ∧ v ≤ 999999) := by
  rw [show (0 : Int64) = (0 : Int32).toInt64 by decide, show (999999 : Int64) = (999999 : Int32).toInt64 by decide, t64_le, t64_le]
theorem lst {S : zS} {f : Nat → Int64} {s : Nat} (hR : RS S f) (hs : cSz S.2.1 = nI s) (hs16 : s ≤ 16) (h0 : ¬ s = 0) : f (28 + 5 * (s - 1) + 2) = dLast S.2.1 := by
  have c1 : (cSz S.2.1 - 1).toNatClampNeg = s - 1 := by rw [hs, show (1 : Int32) = nI 1 from rfl, nI_sub (by omega)]; exact cl (by omega)
  unfold dLast
  rw [if_neg (by rw [hs]; exact nI_nle (by omega) (by omega)), c1]
  exact (hR.2.2 (s - 1) (by rw [hs, cl (by omega)]; omega)).2.2.1
theorem m_latest {E : pm_E} {Q : pm_Q} {y : zD} {m : zN} {S : zS} (hC : okC S.2.1) (hR : RS S (mN m)) (h : Q (some (.long (dLast S.2.1))) (mkH y m)) : Sm E n_X9_latest 0 (pl_entry 1 [.ref 92], [], mkH y m, 0, 0) Q := by
  obtain ⟨d, s, g1, g2, g3, g4⟩ := hC
  have f3 : mN m 3 = (nI s).toInt64 := by rw [hR.1.2.2.2, g3]
  have e3 : (mN m 3).toInt32 = nI s := by rw [f3]; exact t64_back _
  refine pm_go (aX9_latest E) 100 rfl ?_
  conv => whnf
  refine ⟨inA (n := 3) (by decide) (by decide), ?_⟩
  conv => whnf
  refine ⟨fun q => ?_, fun q => ?_⟩
  · have q' : ¬ mN m 3 = 0 := q
    have h0 : ¬ s = 0 := fun z => q' (by rw [f3, z]; rfl)
    have ei : (28 : Int32) + 5 * (mN m 3).toInt32 - 3 = nI (28 + 5 * (s - 1) + 2) := by
      rw [e3, ix28, show (3 : Int32) = nI 3 from rfl, nI_sub (by omega)]
      congr 1
      omega
    have ec : ((28 : Int32) + 5 * (mN m 3).toInt32 - 3).toNatClampNeg = 28 + 5 * (s - 1) + 2 := by rw [ei]; exact cl (by omega)
    have el : mN m ((28 : Int32) + 5 * (mN m 3).toInt32 - 3).toNatClampNeg = dLast S.2.1 := by rw [ec]; exact lst hR g3 g2 h0
    rw [← el] at h
    conv => whnf
    refine ⟨inA (n := 3) (by decide) (by decide), ?_⟩
    conv => whnf
    refine ⟨by have := inA (n := 28 + 5 * (s - 1) + 2) (N := 108) (by omega) (by decide); rw [← ei] at this; exact this, ?_⟩
    conv => whnf
    exact ⟨trivial, h⟩
  · have q' : mN m 3 = 0 := q
    have e0 : dLast S.2.1 = -2000000000000 := by
      unfold dLast
      refine if_pos ?_
      rw [g3]
      rw [f3] at q'
      have := t64_inj.mp (show (nI s).toInt64 = (0 : Int32).toInt64 from q')
      rw [this]
      exact Int32.le_refl _
    rw [e0] at h
    conv => whnf
    exact ⟨trivial, h⟩
def cRow (f : Nat → Int64) (r0 r1 r2 r3 r4 : Nat) (a b c : Int64) : Nat → Int64 := vp_updL (vp_updL (vp_updL (vp_updL (vp_updL (vp_updL f r0 a) r1 b) r2 c) r3 (vp_updL (vp_updL (vp_updL f r0 a) r1 b) r2 c 0)) r4 (-4)) 3 (vp_updL (vp_updL (vp_updL (vp_updL (vp_updL f r0 a) r1 b) r2 c) r3 (vp_updL (vp_updL (vp_updL f r0 a) r1 b) r2 c 0)) r4 (-4) 3 + 1)
theorem cRow_at {f : Nat → Int64} {s : Nat} {a b c : Int64} : (cRow f (28 + 5 * s) (28 + 5 * s + 1) (28 + 5 * s + 2) (28 + 5 * s + 3) (28 + 5 * s + 4) a b c (28 + 5 * s) = a ∧ cRow f (28 + 5 * s) (28 + 5 * s + 1) (28 + 5 * s + 2) (28 + 5 * s + 3) (28 + 5 * s + 4) a b c (28 + 5 * s + 1) = b ∧ cRow f (28 + 5 * s) (28 + 5 * s + 1) (28 + 5 * s + 2) (28 + 5 * s + 3) (28 + 5 * s + 4) a b c (28 + 5 * s + 2) = c ∧ cRow f (28 + 5 * s) (28 + 5 * s + 1) (28 + 5 * s + 2) (28 + 5 * s + 3) (28 + 5 * s + 4) a b c (28 + 5 * s + 3) = f 0 ∧ cRow f (28 + 5 * s) (28 + 5 * s + 1) (28 + 5 * s + 2) (28 + 5 * s + 3) (28 + 5 * s + 4) a b c (28 + 5 * s + 4) = -4) ∧ cRow f (28 + 5 * s) (28 + 5 * s + 1) (28 + 5 * s + 2) (28 + 5 * s + 3) (28 + 5 * s + 4) a b c 3 = f 3 + 1 ∧ ∀ t, ¬ t = 3 → t < 28 + 5 * s ∨ 28 + 5 * s + 4 < t → cRow f (28 + 5 * s) (28 + 5 * s + 1) (28 + 5 * s + 2) (28 + 5 * s + 3) (28 + 5 * s + 4) a b c t = f t := by
  unfold cRow
  refine ⟨⟨?_, ?_, ?_, ?_, ?_⟩, ?_, fun t h3 ht => ?_⟩
  · rw [upL_ne (by omega), upL_ne (by omega), upL_ne (by omega), upL_ne (by omega), upL_ne (by omega), upL_eq]
  · rw [upL_ne (by omega), upL_ne (by omega), upL_ne (by omega), upL_ne (by omega), upL_eq]
  · rw [upL_ne (by omega), upL_ne (by omega), upL_ne (by omega), upL_eq]
  · rw [upL_ne (by omega), upL_ne (by omega), upL_eq, upL_ne (by omega), upL_ne (by omega), upL_ne (by omega)]
  · rw [upL_ne (by omega), upL_eq]
  · rw [upL_eq, upL_ne (by omega), upL_ne (by omega), upL_ne (by omega), upL_ne (by omega), upL_ne (by omega)]
  · rw [upL_ne h3, upL_ne (by omega), upL_ne (by omega), upL_ne (by omega), upL_ne (by omega), upL_ne (by omega)]
theorem RS.make {S : zS} {f : Nat → Int64} {d s : Nat} {k v : Int32} {a : Int64} (h : RS S f) (hs : cSz S.2.1 = nI s) (hd : cDn S.2.1 = nI d) (hds : d ≤ s) (hs16 : s < 16) : RS (S.1, dMake S.2.1 k v a S.2.2, S.2.2) (cRow f (28 + 5 * s) (28 + 5 * s + 1) (28 + 5 * s + 2) (28 + 5 * s + 3) (28 + 5 * s + 4) k.toInt64 v.toInt64 (dStamp S.2.1 a)) := by
  obtain ⟨⟨e0, e1, e2, e3⟩, h4, h5⟩ := h
  obtain ⟨⟨r0, r1, r2, r3, r4⟩, r5, r6⟩ := cRow_at (f := f) (s := s) (a := k.toInt64) (b := v.toInt64) (c := dStamp S.2.1 a)
  have cs : (cSz S.2.1).toNatClampNeg = s := by rw [hs]; exact cl (by omega)
  have cd : (cDn S.2.1).toNatClampNeg = d := by rw [hd]; exact cl (by omega)
  refine ⟨⟨by rw [r6 0 (by omega) (by omega)]; exact e0, by rw [r6 1 (by omega) (by omega)]; exact e1, by rw [r6 2 (by omega) (by omega)]; exact e2, ?_⟩, fun j hj => ?_, fun c hc => ?_⟩
  · rw [r5, e3]
    show (cSz S.2.1).toInt64 + 1 = (cSz S.2.1 + 1).toInt64
    rw [hs, nI_1]
    exact (by decide : ∀ s, s < 16 → (nI s).toInt64 + 1 = (nI (s + 1)).toInt64) s hs16
  · rw [r6 (4 + 4 * j) (by omega) (by omega), r6 (4 + 4 * j + 1) (by omega) (by omega), r6 (4 + 4 * j + 2) (by omega) (by omega), r6 (4 + 4 * j + 3) (by omega) (by omega)]
    exact h4 j hj
  · have hc' : c < (cSz S.2.1 + 1).toNatClampNeg := hc
    rw [hs, nI_1, cl (by omega)] at hc'
    show _ = (upd S.2.1.1 (cSz S.2.1).toNatClampNeg k c).toInt64 ∧ _ = (upd S.2.1.2.1 (cSz S.2.1).toNatClampNeg v c).toInt64 ∧ _ = vp_updL S.2.1.2.2.1 (cSz S.2.1).toNatClampNeg (dStamp S.2.1 a) c ∧ _ = (upd S.2.1.2.2.2.1 (cSz S.2.1).toNatClampNeg S.2.2 c).toInt64 ∧ _ = if c < (cDn S.2.1).toNatClampNeg then (S.2.1.2.2.2.2.1 c).toInt64 else -4
    rw [cs, cd]
    by_cases q : c = s
    · subst q
      rw [r0, r1, r2, r3, r4, upL_eq, if_neg (by omega)]
      unfold upd
      rw [if_pos rfl, if_pos rfl, if_pos rfl]
      exact ⟨rfl, rfl, rfl, e0, rfl⟩
    · rw [r6 (28 + 5 * c) (by omega) (by omega), r6 (28 + 5 * c + 1) (by omega) (by omega), r6 (28 + 5 * c + 2) (by omega) (by omega), r6 (28 + 5 * c + 3) (by omega) (by omega), r6 (28 + 5 * c + 4) (by omega) (by omega), upL_ne q]
      unfold upd
      rw [if_neg q, if_neg q, if_neg q]
      have h6 := h5 c (by rw [cs]; omega)
      rw [cd] at h6
      exact h6
theorem WC.make {C : zC} {k v t : Int32} {a : Int64} {s : Nat} (h : WC C) (hs : cSz C = nI s) (hs16 : s < 16) (hk : ∃ n : Nat, n < 6 ∧ k = nI n) (hv : ∃ n : Nat, n ≤ 999999 ∧ v = nI n) (ht : ∃ n : Nat, n < 2 ^ 31 ∧ t = nI n) (a1 : -1125899906842624 ≤ a.toInt) (a2 : a.toInt ≤ 1100000000000) : WC (dMake C k v a t) := by
  obtain ⟨d, s2, g1, g2, g3, g4, g5, g6, g7⟩ := h
  obtain rfl : s2 = s := (nI_eq (by omega) (by omega)).mp (by rw [← g3, hs])
  have cs : (cSz C).toNatClampNeg = s2 := by rw [hs]; exact cl (by omega)
  have hst : (-1125899906842624 ≤ (dStamp C a).toInt ∧ (dStamp C a).toInt ≤ 1100000000000 + s2) ∧ ∀ c, c + 1 = s2 → (C.2.2.1 c).toInt < (dStamp C a).toInt := by
    unfold dStamp
    by_cases q : s2 = 0
    · rw [if_pos (by rw [hs, q]; decide)]
      exact ⟨⟨a1, by omega⟩, fun c hc => by omega⟩
    · have c1 : (cSz C - 1).toNatClampNeg = s2 - 1 := by rw [hs, show (1 : Int32) = nI 1 from rfl, nI_sub (by omega)]; exact cl (by omega)
      rw [if_neg (by rw [hs]; exact nI_nle (by omega) (by omega)), c1]
      obtain ⟨-, -, -, b1, b2⟩ := g5 (s2 - 1) (by omega)
      have e1 : (C.2.2.1 (s2 - 1) + 1).toInt = (C.2.2.1 (s2 - 1)).toInt + 1 := i64_add (b := 1) (by rw [show (1 : Int64).toInt = 1 by decide]; omega) (by rw [show (1 : Int64).toInt = 1 by decide]; omega)
      by_cases u : C.2.2.1 (s2 - 1) + 1 < a
      · rw [if_pos u]
        have u' := Int64.lt_iff_toInt_lt.mp u
        rw [e1] at u'
        exact ⟨⟨a1, by omega⟩, fun c hc => by rw [show c = s2 - 1 by omega]; omega⟩
      · rw [if_neg u, e1]
        exact ⟨⟨by omega, by omega⟩, fun c hc => by rw [show c = s2 - 1 by omega]; omega⟩
  refine ⟨d, s2 + 1, by omega, by omega, by show cSz C + 1 = _; rw [hs, nI_1], g4, fun c hc => ?_, fun c hc => ?_, g7⟩
  · show (∃ a : Nat, a < 6 ∧ upd C.1 (cSz C).toNatClampNeg k c = nI a) ∧ (∃ b : Nat, b ≤ 999999 ∧ upd C.2.1 (cSz C).toNatClampNeg v c = nI b) ∧ (∃ u : Nat, u < 2 ^ 31 ∧ upd C.2.2.2.1 (cSz C).toNatClampNeg t c = nI u) ∧ -1125899906842624 ≤ (vp_updL C.2.2.1 (cSz C).toNatClampNeg (dStamp C a) c).toInt ∧ (vp_updL C.2.2.1 (cSz C).toNatClampNeg (dStamp C a) c).toInt ≤ 1100000000000 + c
    rw [cs]
    by_cases q : c = s2
    · rw [q, upL_eq]
      unfold upd
      rw [if_pos rfl, if_pos rfl, if_pos rfl]
      exact ⟨hk, hv, ht, hst.1.1, hst.1.2⟩
    · rw [upL_ne q]
      unfold upd
      rw [if_neg q, if_neg q, if_neg q]
      exact g5 c (by omega)
  · show (vp_updL C.2.2.1 (cSz C).toNatClampNeg (dStamp C a) c).toInt < (vp_updL C.2.2.1 (cSz C).toNatClampNeg (dStamp C a) (c + 1)).toInt
    rw [cs, upL_ne (show ¬ c = s2 by omega)]
    by_cases q : c + 1 = s2
    · rw [q, upL_eq]
      exact hst.2 c q
    · rw [upL_ne q]
      exact g6 c (by omega)
theorem okG_ne {l : zR} (h : okG l) : l ≠ [] := fun z => by
  rw [z] at h
  exact absurd h (by decide)
theorem lS_ok {k : Nat} {S : zS} (hW : WF k S) (hk : k ≤ 512) : spOK (lS S) := by
  obtain ⟨hC, loc, hl, hWM⟩ := hW
  have h7 : loc ≤ 5000 * k := by obtain ⟨dr, w1, w2, a1, a2, a3, a4, a5, a6, a7, a8⟩ := hWM; exact a7
  show spOK (lAt S S.2.2)
  rw [hl]
  exact spL_ok hWM hk (Nat.le_refl _) (by omega) 6 (by omega)
theorem m_commit {E : pm_E} {Q : pm_Q} {x y : zD} {m : zN} {k : Nat} {ke v : Int32} (I : Inv k x m) (hk : k ≤ 512) (h : ∀ m', Inv (k + 1) (dCommit x ke v).2 m' → Q (some (.int (dCommit x ke v).1)) (mkH y m')) : Sm E n_X9_commit 0 (pl_entry 7 [.ref 92, .int ke, .int v], [], mkH y m, 0, 0) Q := by
  have bad : ¬ ((0 ≤ ke ∧ ke < 6) ∧ 0 ≤ v ∧ v ≤ 999999) → Q (some (.int (-1))) (mkH y m) := fun z' => by
    have e : dCommit x ke v = (-1, x) := if_neg z'
    rw [e] at h
    exact h m I.mono
  refine pm_go (aX9_commit E) 300 rfl ?_
  conv => whnf
  refine ⟨trivial, m_within (fun q => ?_) (fun q => ?_)⟩
  · have hke := k05.mp q
    conv => whnf
    refine ⟨fun z => absurd z (by decide), fun _ => ?_⟩
    conv => whnf
    refine ⟨trivial, m_within (fun q2 => ?_) (fun q2 => ?_)⟩
    · have hv := v999.mp q2
      have e : dCommit x ke v = _ := if_pos ⟨hke, hv⟩
      rw [e] at h
      have hC := I.2.2.2.1.1
      have hC' := hC
      obtain ⟨d, s, g1, g2, g3, g4, -⟩ := hC'
      have f3 : mN m 3 = (nI s).toInt64 := by rw [I.2.2.1.1.2.2.2, g3]
      have e3 : (mN m 3).toInt32 = nI s := by rw [f3]; exact t64_back _
      conv => whnf
      refine ⟨fun _ => ?_, fun z => absurd z (by decide)⟩
      conv => whnf
      refine ⟨inA (n := 0) (by decide) (by decide), ?_⟩
      conv => whnf
      refine ⟨trivial, m_findI I.2.2.2.1 I.2.2.1 hk (fun F' hF => ?_)⟩
      conv => whnf
      refine ⟨trivial, m_good (m := tF m F') hF (fun hg => ?_) (fun hg => ?_)⟩
      · rw [if_pos hg] at h
        conv => whnf
        refine ⟨fun _ => ?_, fun z => absurd z (by decide)⟩
        conv => whnf
        refine ⟨inA (n := 3) (by decide) (by decide), ?_⟩
        conv => whnf
        refine ⟨fun q3 => ?_, fun q3 => ?_⟩
        · have q3' : ¬ mN m 3 = 16 := q3
          have hs : s < 16 := by
            have : ¬ s = 16 := fun z => q3' (by rw [f3, z]; decide)
            omega
          rw [if_pos (show cSz (xC x) < 16 by rw [g3]; exact nI_lt (b := 16) hs (by decide))] at h
          have hne := okG_ne hg
          have er := (hF.2.2 hne).2
          obtain ⟨-, -, p3, p4⟩ := rend_prop (lS_ok I.2.2.2.1 hk) hne
          obtain ⟨loc, hl, hWM⟩ := I.2.2.2.1.2
          have h7 : loc ≤ 5000 * k := by obtain ⟨dr, w1, w2, a1, a2, a3, a4, a5, a6, a7, a8⟩ := hWM; exact a7
          obtain ⟨nk, hnk, ek⟩ := okM_nI (okM6.mp q)
          obtain ⟨nv, hnv, ev⟩ := d999 q2
          have x0 : (28 : Int32) + 5 * (mN m 3).toInt32 = nI (28 + 5 * s) := by rw [e3]; exact ix28
          have x1 : (28 : Int32) + 5 * (mN m 3).toInt32 + 1 = nI (28 + 5 * s + 1) := by rw [e3]; exact ix28k (k := 1)
          have x2 : (28 : Int32) + 5 * (mN m 3).toInt32 + 2 = nI (28 + 5 * s + 2) := by rw [e3]; exact ix28k (k := 2)
          have x3 : (28 : Int32) + 5 * (mN m 3).toInt32 + 3 = nI (28 + 5 * s + 3) := by rw [e3]; exact ix28k (k := 3)
          have x4 : (28 : Int32) + 5 * (mN m 3).toInt32 + 4 = nI (28 + 5 * s + 4) := by rw [e3]; exact ix28k (k := 4)
          have i0 : vp_in ((28 : Int32) + 5 * (mN m 3).toInt32) 108 := by rw [x0]; exact inA (by omega) (by decide)
          have i1 : vp_in ((28 : Int32) + 5 * (mN m 3).toInt32 + 1) 108 := by rw [x1]; exact inA (by omega) (by decide)
          have i2 : vp_in ((28 : Int32) + 5 * (mN m 3).toInt32 + 2) 108 := by rw [x2]; exact inA (by omega) (by decide)
          have i3 : vp_in ((28 : Int32) + 5 * (mN m 3).toInt32 + 3) 108 := by rw [x3]; exact inA (by omega) (by decide)
          have i4 : vp_in ((28 : Int32) + 5 * (mN m 3).toInt32 + 4) 108 := by rw [x4]; exact inA (by omega) (by decide)
          have fin : ∀ st : Int64, st = dStamp (xC x) (rend (lS (xS x))) → ∀ f' K', PR k (dKp (xP x) (xS x)) f' K' → Q (some (.int (mN m 3).toInt32)) (mkH y (tN (tP (tF m F') f' K') (cRow (mN m) ((28 : Int32) + 5 * (mN m 3).toInt32).toNatClampNeg ((28 : Int32) + 5 * (mN m 3).toInt32 + 1).toNatClampNeg ((28 : Int32) + 5 * (mN m 3).toInt32 + 2).toNatClampNeg ((28 : Int32) + 5 * (mN m 3).toInt32 + 3).toNatClampNeg ((28 : Int32) + 5 * (mN m 3).toInt32 + 4).toNatClampNeg ke.toInt64 v.toInt64 st))) := fun st hst f' K' hP => by
            rw [x1, x2, x3, x4, x0, cl (n := 28 + 5 * s) (by omega), cl (n := 28 + 5 * s + 1) (by omega), cl (n := 28 + 5 * s + 2) (by omega), cl (n := 28 + 5 * s + 3) (by omega), cl (n := 28 + 5 * s + 4) (by omega), hst, e3]
            have hh := h (tN (tP (tF m F') f' K') (cRow (mN m) (28 + 5 * s) (28 + 5 * s + 1) (28 + 5 * s + 2) (28 + 5 * s + 3) (28 + 5 * s + 4) ke.toInt64 v.toInt64 (dStamp (xC x) (rend (lS (xS x)))))) ⟨I.1, I.2.1, I.2.2.1.make g3 g4 g1 hs, ⟨hC.make g3 hs ⟨nk, hnk, ek⟩ ⟨nv, hnv, ev⟩ ⟨loc, by omega, hl⟩ p3 p4, loc, hl, hWM.mono⟩, hP.mono⟩
            have ec : cSz (xC x) + 1 - 1 = nI s := by rw [g3, nI_1]; exact nI_pred s
            rw [ec] at hh
            exact hh
          conv => whnf
          refine ⟨trivial, m_note (m := tF m F') I.2.2.2.2 I.2.2.2.1 I.2.2.1 (fun f' K' hP => ?_)⟩
          conv => whnf
          refine ⟨inA (n := 3) (by decide) (by decide), ?_⟩
          conv => whnf
          refine ⟨trivial, m_latest (m := tP (tF m F') f' K') (S := xS x) hC.ok I.2.2.1 ?_⟩
          conv => whnf
          refine ⟨i0, ?_⟩
          conv => whnf
          refine ⟨i1, ?_⟩
          conv => whnf
          refine ⟨fun q4 => ?_, fun q4 => ?_⟩
          · have q4' : (mN m 3).toInt32 ≤ 0 := q4
            have st1 : F'.2.2.2.2.2 = dStamp (xC x) (rend (lS (xS x))) := by
              rw [er]
              unfold dStamp
              rw [if_pos (by rw [g3, ← e3]; exact q4')]
            conv => whnf
            refine ⟨i2, ?_⟩
            conv => whnf
            refine ⟨inA (n := 0) (by decide) (by decide), ?_⟩
            conv => whnf
            refine ⟨i3, ?_⟩
            conv => whnf
            refine ⟨i4, ?_⟩
            conv => whnf
            refine ⟨inA (n := 3) (by decide) (by decide), ?_⟩
            conv => whnf
            refine ⟨inA (n := 3) (by decide) (by decide), ?_⟩
            conv => whnf
            refine ⟨trivial, ?_⟩
            exact fin _ (st1) f' K' hP
          · have q4' : ¬ (mN m 3).toInt32 ≤ 0 := q4
            have n0 : ¬ cSz (xC x) ≤ 0 := by rw [g3, ← e3]; exact q4'
            have el : dLast (xC x) = (xC x).2.2.1 (cSz (xC x) - 1).toNatClampNeg := if_neg n0
            conv => whnf
            refine ⟨fun q5 => ?_, fun q5 => ?_⟩
            · have q5' : dLast (xC x) + 1 ≤ F'.2.2.2.2.2 := q5
              have st1 : F'.2.2.2.2.2 = dStamp (xC x) (rend (lS (xS x))) := by
                unfold dStamp
                rw [if_neg n0, ← el, ← er]
                by_cases u : dLast (xC x) + 1 < F'.2.2.2.2.2
                · rw [if_pos u]
                · rw [if_neg u]
                  exact Int64.le_antisymm (Int64.not_lt.mp u) q5'
              conv => whnf
              refine ⟨i2, ?_⟩
              conv => whnf
              refine ⟨inA (n := 0) (by decide) (by decide), ?_⟩
              conv => whnf
              refine ⟨i3, ?_⟩
              conv => whnf
              refine ⟨i4, ?_⟩
              conv => whnf
              refine ⟨inA (n := 3) (by decide) (by decide), ?_⟩
              conv => whnf
              refine ⟨inA (n := 3) (by decide) (by decide), ?_⟩
              conv => whnf
              refine ⟨trivial, ?_⟩
              exact fin _ (st1) f' K' hP
            · have q5' : ¬ dLast (xC x) + 1 ≤ F'.2.2.2.2.2 := q5
              have st1 : dLast (xC x) + 1 = dStamp (xC x) (rend (lS (xS x))) := by
                unfold dStamp
                rw [if_neg n0, ← el, ← er, if_neg (fun u => q5' (Int64.le_of_lt u))]
              conv => whnf
              refine ⟨i2, ?_⟩
              conv => whnf
              refine ⟨inA (n := 0) (by decide) (by decide), ?_⟩
              conv => whnf
              refine ⟨i3, ?_⟩
              conv => whnf
              refine ⟨i4, ?_⟩
              conv => whnf
              refine ⟨inA (n := 3) (by decide) (by decide), ?_⟩
              conv => whnf
              refine ⟨inA (n := 3) (by decide) (by decide), ?_⟩
              conv => whnf
              refine ⟨trivial, ?_⟩
              exact fin _ (st1) f' K' hP
        · have q3' : mN m 3 = 16 := q3
          rw [if_neg (show ¬ cSz (xC x) < 16 from fun u => by
            rw [g3] at u
            have u' := (nI_ltI (b := 16) (by omega) (by omega)).mp u
            rw [f3] at q3'
            have := t64_inj.mp (show (nI s).toInt64 = (16 : Int32).toInt64 from q3')
            have := (nI_eq (b := 16) (by omega) (by omega)).mp this
            omega)] at h
          conv => whnf
          exact ⟨trivial, h (tF m F') I.mono⟩
      · rw [if_neg hg] at h
        conv => whnf
        refine ⟨fun z => absurd rfl z, fun _ => ?_⟩
        conv => whnf
        exact ⟨trivial, h (tF m F') I.mono⟩
    · conv => whnf
      refine ⟨fun z => absurd rfl z, fun _ => ?_⟩
      conv => whnf
      exact ⟨trivial, bad (fun z => q2 (v999.mpr z.2))⟩
  · conv => whnf
    refine ⟨fun _ => ?_, fun z => absurd rfl z⟩
    conv => whnf
    exact ⟨trivial, bad (fun z => q (k05.mpr z.1))⟩
