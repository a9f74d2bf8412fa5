/-! ===== the reference: commitOf, waiting ===== -/
theorem sz1 : ∀ s, s < 17 → ((nI s).toInt64 - 1).toInt = (s : Int) - 1 := by decide
theorem isC {C : zC} {c : Int32} {s : Nat} (hs : cSz C = nI s) (hs16 : s ≤ 16) : (0 ≤ c.toInt64 ∧ c.toInt64 ≤ (nI s).toInt64 - 1) ↔ okN C c := by
  show _ ↔ 0 ≤ c ∧ c < cSz C
  rw [hs, show (0 : Int64) = (0 : Int32).toInt64 by decide, t64_le, Int64.le_iff_toInt_le, sz1 s (by omega), Int32.toInt_toInt64, Int32.lt_iff_toInt_lt, nI_toInt (by omega)]
  constructor <;> intro h <;> exact ⟨h.1, by have := h.2; omega⟩
theorem okN_nI {C : zC} {c : Int32} {s : Nat} (hs : cSz C = nI s) (hs16 : s ≤ 16) (h : okN C c) : ∃ j : Nat, j < s ∧ c = nI j := by
  obtain ⟨j, hj, e⟩ := nI_of (x := c) (Int32.not_lt.mpr h.1)
  have h2 := h.2
  rw [hs, e] at h2
  exact ⟨j, (nI_ltI hj (by omega)).mp h2, e⟩
theorem m_isCommit {E : pm_E} {Q : pm_Q} {y : zD} {m : zN} {S : zS} {c : Int32} (hC : okC S.2.1) (hR : RS S (mN m)) (h1 : okN S.2.1 c → Q (some (.int 1)) (mkH y m)) (h0 : ¬ okN S.2.1 c → Q (some (.int 0)) (mkH y m)) : Sm E n_X9_isCommit 0 (pl_entry 2 [.ref 92, .int c], [], mkH y m, 0, 0) Q := by
  obtain ⟨d, s, g1, g2, g3, g4⟩ := hC
  have f3 : mN m 3 = (nI s).toInt64 := by rw [hR.1.2.2.2, g3]
  have hi := isC (c := c) g3 g2
  rw [← f3] at hi
  refine pm_go (aX9_isCommit E) 100 rfl ?_
  conv => whnf
  refine ⟨inA (n := 3) (by decide) (by decide), ?_⟩
  conv => whnf
  refine ⟨trivial, m_within (fun q => ?_) (fun q => ?_)⟩
  · conv => whnf
    exact ⟨rfl, h1 (hi.mp q)⟩
  · conv => whnf
    exact ⟨rfl, h0 (fun z => q (hi.mpr z))⟩
theorem RS.cOf {S : zS} {f : Nat → Int64} {d s c : Nat} (h : RS S f) (hs : cSz S.2.1 = nI s) (hd : cDn S.2.1 = nI d) (hds : d ≤ s) (hs16 : s ≤ 16) (hc : c < s) : ∀ j, j < 5 → f (28 + 5 * c + j) = dCommitOf S.2.1 (nI c) (nI j) := by
  obtain ⟨a0, a1, a2, a3, a4⟩ := h.2.2 c (by rw [hs, cl (by omega)]; exact hc)
  have cc : (nI c).toNatClampNeg = c := cl (by omega)
  have hN : okN S.2.1 (nI c) := ⟨nI_pos' (by omega), by rw [hs]; exact nI_lt hc (by omega)⟩
  have hdd : nI c < cDn S.2.1 ↔ c < (cDn S.2.1).toNatClampNeg := by rw [hd, cl (by omega)]; exact nI_ltI (by omega) (by omega)
  intro j hj
  unfold dCommitOf
  rw [if_pos hN, cc]
  match j, hj with
  | 0, _ => rw [if_pos (by decide)]; exact a0
  | 1, _ => rw [if_neg (by decide), if_pos (by decide)]; exact a1
  | 2, _ => rw [if_neg (by decide), if_neg (by decide), if_pos (by decide)]; exact a2
  | 3, _ => rw [if_neg (by decide), if_neg (by decide), if_neg (by decide), if_pos (by decide)]; exact a3
  | 4, _ =>
    rw [if_neg (by decide), if_neg (by decide), if_neg (by decide), if_neg (by decide), if_pos (by decide), a4]
    by_cases q : c < (cDn S.2.1).toNatClampNeg
    · rw [if_pos q, if_pos (hdd.mpr q)]
    · rw [if_neg q, if_neg (fun z => q (hdd.mp z))]
theorem w04 {w : Int32} : (0 ≤ w.toInt64 ∧ w.toInt64 ≤ 4) ↔ ∃ j : Nat, j < 5 ∧ w = nI j := by
  rw [show (0 : Int64) = (0 : Int32).toInt64 by decide, show (4 : Int64) = (4 : Int32).toInt64 by decide, t64_le, t64_le]
  constructor
  · intro h
    obtain ⟨j, hj, e⟩ := nI_of2 (x := w) (M := 4) (n := 4) (by decide) (Int32.not_lt.mpr h.1) h.2
    exact ⟨j, by omega, e⟩
  · rintro ⟨j, hj, e⟩
    rw [e]
    exact ⟨nI_pos' (by omega), nI_le (b := 4) (by omega) (by omega)⟩
theorem m_commitOf {E : pm_E} {Q : pm_Q} {x y : zD} {m : zN} {k : Nat} {c w : Int32} (I : Inv k x m) (h : Q (some (.long (dCommitOf (xC x) c w))) (mkH y m)) : Sm E n_X9_commitOf 0 (pl_entry 3 [.ref 92, .int c, .int w], [], mkH y m, 0, 0) Q := by
  have hC := I.2.2.2.1.1
  have hC' := hC
  obtain ⟨d, s, g1, g2, g3, g4, -⟩ := hC'
  refine pm_go (aX9_commitOf E) 100 rfl ?_
  conv => whnf
  refine ⟨trivial, m_isCommit (S := xS x) hC.ok I.2.2.1 (fun q => ?_) (fun q => ?_)⟩
  · conv => whnf
    refine ⟨fun z => absurd z (by decide), fun _ => ?_⟩
    conv => whnf
    refine ⟨trivial, m_within (fun q2 => ?_) (fun q2 => ?_)⟩
    · obtain ⟨i, hi, rfl⟩ := okN_nI g3 g2 q
      obtain ⟨j, hj, rfl⟩ := w04.mp q2
      have e := I.2.2.1.cOf g3 g4 g1 g2 hi j hj
      have ei : (28 : Int32) + 5 * nI i + nI j = nI (28 + 5 * i + j) := ix28k
      have ec : ((28 : Int32) + 5 * nI i + nI j).toNatClampNeg = 28 + 5 * i + j := by rw [ei]; exact cl (by omega)
      rw [← e, ← ec] at h
      conv => whnf
      refine ⟨fun z => absurd z (by decide), fun _ => ?_⟩
      conv => whnf
      refine ⟨by rw [ei]; exact inA (by omega) (by decide), ?_⟩
      conv => whnf
      exact ⟨trivial, h⟩
    · have e : dCommitOf (xC x) c w = -1 := by
        have nn : ∀ j, j < 5 → ¬ w = nI j := fun j hj z => q2 (w04.mpr ⟨j, hj, z⟩)
        unfold dCommitOf
        rw [if_pos q, if_neg (show ¬ w = 0 from nn 0 (by omega)), if_neg (show ¬ w = 1 from nn 1 (by omega)), if_neg (show ¬ w = 2 from nn 2 (by omega)), if_neg (show ¬ w = 3 from nn 3 (by omega)), if_neg (show ¬ w = 4 from nn 4 (by omega))]
      rw [e] at h
      conv => whnf
      refine ⟨fun _ => ?_, fun z => absurd rfl z⟩
      conv => whnf
      exact ⟨trivial, h⟩
  · have e : dCommitOf (xC x) c w = -1 := if_neg q
    rw [e] at h
    conv => whnf
    refine ⟨fun _ => ?_, fun z => absurd rfl z⟩
    conv => whnf
    exact ⟨trivial, h⟩
theorem l_waitM {E : pm_E} {Q : pm_Q} {y : zD} {m : zN} {k loc c : Nat} {S : zS} (hR : RS S (mN m)) (hl : S.2.2 = nI loc) (hM : WM k S.1 loc) (hk : k ≤ 512) (hc : c < 16) {st : Int64} (hst : mN m (28 + 5 * c + 2) = st) : ∀ (n w : Nat) (F : zF), w + n = 2001 → (∀ F', Q (some (.int (dWt S st n w))) (mkH y (tF m F'))) → Sm E n_X9_waiting 35 ([some (.ref 92), some (.int (nI c)), some (.int (nI w))], [], mkH y (tF m F), 0, 0) Q := by
  have h7 : loc ≤ 5000 * k := by obtain ⟨dr, w1, w2, a1, a2, a3, a4, a5, a6, a7, a8⟩ := hM; exact a7
  have c2 : ((28 : Int32) + 5 * nI c + 2).toNatClampNeg = 28 + 5 * c + 2 := by rw [ix282]; exact cl (by omega)
  intro n
  induction n with
  | zero =>
    intro w F hw h
    obtain rfl : w = 2001 := by omega
    refine pm_lp (aX9_waiting E) 100 35 rfl ?_
    conv => whnf
    refine ⟨fun _ => ?_, fun q => absurd (show (2000 : Int32) < nI 2001 by decide) q⟩
    conv => whnf
    exact ⟨trivial, h F⟩
  | succ n ih =>
    intro w F hw h
    have eT : mN m 0 + (nI w).toInt64 = (nI (loc + w)).toInt64 := by
      refine Int64.toInt_inj.mp ?_
      have t0 : (mN m 0).toInt = loc := by rw [hR.1.1, hl, Int32.toInt_toInt64, nI_toInt (by omega)]
      have t1 : (nI w).toInt64.toInt = w := by rw [Int32.toInt_toInt64, nI_toInt (by omega)]
      rw [i64_add (by rw [t0, t1]; omega) (by rw [t0, t1]; omega), t0, t1, Int32.toInt_toInt64, nI_toInt (by omega)]
      omega
    have eL : S.2.2 + nI w = nI (loc + w) := by rw [hl, nI_add]
    rw [dWt, eL] at h
    refine pm_lp (aX9_waiting E) 100 35 rfl ?_
    conv => whnf
    refine ⟨fun q => absurd (show nI 2000 < nI w from q) (nI_nlt (by omega) (by omega)), fun _ => ?_⟩
    conv => whnf
    refine ⟨inA (n := 0) (by decide) (by decide), ?_⟩
    conv => whnf
    refine ⟨trivial, m_findT (m := tF m F) (S := S) (tt := loc + w) eT hM hR hk (by omega) (by omega) (fun F' hF => ?_)⟩
    have go : ¬ (okG (lAt S (nI (loc + w))) ∧ st < beg (lAt S (nI (loc + w)))) → Sm E n_X9_waiting 35 ([some (.ref 92), some (.int (nI c)), some (.int (nI w + 1))], [], mkH y (tF m F'), 0, 0) Q := fun z => by
      rw [if_neg z] at h
      rw [← nI_succ]
      exact ih (w + 1) F' (by omega) h
    conv => whnf
    refine ⟨trivial, m_good (m := tF m F') hF (fun hg => ?_) (fun hg => ?_)⟩
    · have eb := (hF.2.2 (okG_ne hg)).1
      conv => whnf
      refine ⟨fun z => absurd z (by decide), fun _ => ?_⟩
      conv => whnf
      refine ⟨by rw [ix282]; exact inA (by omega) (by decide), ?_⟩
      conv => whnf
      refine ⟨fun q => ?_, fun q => ?_⟩
      · have q' : F'.2.2.2.2.1 ≤ mN m ((28 : Int32) + 5 * nI c + 2).toNatClampNeg := q
        rw [c2, hst, eb] at q'
        conv => whnf
        refine ⟨trivial, ?_⟩
        exact go (fun z => Int64.not_lt.mpr q' z.2)
      · have q' : ¬ F'.2.2.2.2.1 ≤ mN m ((28 : Int32) + 5 * nI c + 2).toNatClampNeg := q
        rw [c2, hst, eb] at q'
        rw [if_pos ⟨hg, Int64.not_le.mp q'⟩] at h
        conv => whnf
        exact ⟨trivial, h F'⟩
    · conv => whnf
      refine ⟨fun _ => ?_, fun z => absurd rfl z⟩
      conv => whnf
      refine ⟨trivial, ?_⟩
      exact go (fun z => hg z.1)
theorem m_waiting {E : pm_E} {Q : pm_Q} {x y : zD} {m : zN} {k : Nat} {c : Int32} (I : Inv k x m) (hk : k ≤ 512) (h : ∀ m', Inv k x m' → Q (some (.int (dWait (xS x) c))) (mkH y m')) : Sm E n_X9_waiting 0 (pl_entry 3 [.ref 92, .int c], [], mkH y m, 0, 0) Q := by
  have hC := I.2.2.2.1.1
  have hC' := hC
  obtain ⟨d, s, g1, g2, g3, g4, -⟩ := hC'
  obtain ⟨loc, hl, hWM⟩ := I.2.2.2.1.2
  refine pm_go (aX9_waiting E) 100 rfl ?_
  conv => whnf
  refine ⟨trivial, m_isCommit (S := xS x) hC.ok I.2.2.1 (fun q => ?_) (fun q => ?_)⟩
  · have e : dWait (xS x) c = _ := if_pos q
    rw [e] at h
    obtain ⟨i, hi, rfl⟩ := okN_nI g3 g2 q
    have hdn := I.2.2.1.done (c := i) hC g3 g4 g2 g1 hi
    have c4 : ((28 : Int32) + 5 * nI i + 4).toNatClampNeg = 28 + 5 * i + 4 := by rw [ix284]; exact cl (by omega)
    have hdd : nI i < cDn (xC x) ↔ i < d := by rw [g4]; exact nI_ltI (by omega) (by omega)
    conv => whnf
    refine ⟨fun _ => ?_, fun z => absurd z (by decide)⟩
    conv => whnf
    refine ⟨by rw [ix284]; exact inA (by omega) (by decide), ?_⟩
    conv => whnf
    refine ⟨fun q2 => ?_, fun q2 => ?_⟩
    · have q2' : mN m ((28 : Int32) + 5 * nI i + 4).toNatClampNeg = -4 := q2
      rw [c4, hdn] at q2'
      rw [if_neg (fun z => by have := hdd.mp z; omega), cl (n := i) (by omega)] at h
      conv => whnf
      refine ⟨trivial, ?_⟩
      exact l_waitM I.2.2.1 hl hWM hk (by omega) (I.2.2.1.2.2 i (by rw [g3, cl (by omega)]; exact hi)).2.2.1 2001 0 (mF m) (by omega) (fun F' => h (tF m F') I)
    · have q2' : ¬ mN m ((28 : Int32) + 5 * nI i + 4).toNatClampNeg = -4 := q2
      rw [c4, hdn] at q2'
      rw [if_pos (hdd.mpr (by omega))] at h
      conv => whnf
      exact ⟨trivial, h m I⟩
  · have e : dWait (xS x) c = -1 := if_neg q
    rw [e] at h
    conv => whnf
    refine ⟨fun z => absurd rfl z, fun _ => ?_⟩
    conv => whnf
    exact ⟨trivial, h m I⟩
