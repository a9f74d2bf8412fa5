/-! ===== commits asked for ===== -/
def dCommit (x : zD) (k v : Int32) : Int32 × zD := if (0 ≤ k ∧ k < 6) ∧ 0 ≤ v ∧ v ≤ 999999 then (if okG (lS (xS x)) then (if cSz (xC x) < 16 then (cSz (xC x) + 1 - 1, sC (sP x (dKp (xP x) (xS x))) (dMake (xC x) k v (rend (lS (xS x))) (xS x).2.2)) else (-3, x)) else (-2, x)) else (-1, x)
theorem d_commit {E : pm_E} {Q : pm_Q} {x : zD} {m : List va_E} {k v : Int32} (hp : okP (xP x)) (hc : okC (xC x)) (h : ∀ A', Q (some (.int (dCommit x k v).1)) (mkG (sA (dCommit x k v).2 A') m)) : Sm E n_X8_commit 0 (pl_entry 3 [.ref 4, .int k, .int v], [], mkG x m, 0, 0) Q := by
  unfold dCommit at h
  refine pm_go (aX8_commit E) 100 rfl ?_
  conv => whnf
  refine ⟨trivial, c_isKey (fun q => ?_) (fun q => ?_)⟩
  · conv => whnf
    refine ⟨fun z => absurd z (by decide), fun _ => ?_⟩
    conv => whnf
    refine ⟨fun q2 => ?_, fun q2 => ?_⟩
    · rw [if_neg (fun z => Int32.not_lt.mpr z.2.1 q2)] at h
      conv => whnf
      exact ⟨trivial, h (xA x)⟩
    · conv => whnf
      refine ⟨fun q3 => ?_, fun q3 => ?_⟩
      · rw [if_pos ⟨q, Int32.not_lt.mp q2, q3⟩] at h
        conv => whnf
        refine ⟨trivial, d_look (x := x) (fun A' hA => ?_)⟩
        have h := h A'
        conv => whnf
        refine ⟨trivial, c_goodF (x := sA x A') hA (fun q4 => ?_) (fun q4 => ?_)⟩
        · rw [if_pos q4] at h
          conv => whnf
          refine ⟨fun _ => ?_, fun z => absurd z (by decide)⟩
          conv => whnf
          refine ⟨fun q5 => ?_, fun q5 => ?_⟩
          · have q5 : cSz (xC x) < 16 := q5
            rw [if_pos q5] at h
            have hi : vp_in (cSz (xC x)) 16 := by
              obtain ⟨d, s, h1, h2, h3, h4⟩ := hc
              rw [h3]
              have q5' : nI s < nI 16 := by rw [← h3]; exact q5
              exact vp_in_nI ((nI_ltI (by omega) (by omega)).mp q5') (by decide)
            conv => whnf
            refine ⟨trivial, d_keep (x := sA x A') hp ?_⟩
            conv => whnf
            refine ⟨trivial, c_rowF (x := sP (sA x A') (dKp (xP x) (xS x))) hA ?_⟩
            conv => whnf
            refine ⟨trivial, c_make (x := sP (sA x A') (dKp (xP x) (xS x))) hi ?_⟩
            conv => whnf
            exact ⟨trivial, h⟩
          · have q5 : ¬ cSz (xC x) < 16 := q5
            rw [if_neg q5] at h
            conv => whnf
            exact ⟨trivial, h⟩
        · rw [if_neg q4] at h
          conv => whnf
          refine ⟨fun z => absurd rfl z, fun _ => ?_⟩
          conv => whnf
          exact ⟨trivial, h⟩
      · rw [if_neg (fun z => q3 z.2.2)] at h
        conv => whnf
        exact ⟨trivial, h (xA x)⟩
  · rw [if_neg (fun z => q z.1)] at h
    conv => whnf
    refine ⟨fun _ => ?_, fun z => absurd rfl z⟩
    conv => whnf
    exact ⟨trivial, h (xA x)⟩
abbrev okN (C : zC) (c : Int32) : Prop := 0 ≤ c ∧ c < cSz C
theorem okN_in {C : zC} {c : Int32} (hc : okC C) (h : okN C c) : vp_in c 16 := by
  obtain ⟨d, s, h1, h2, h3, h4⟩ := hc
  obtain ⟨j, hj, rfl⟩ := nI_of (Int32.not_lt.mpr h.1)
  have h' : nI j < nI s := by rw [← h3]; exact h.2
  exact vp_in_nI (by have := (nI_ltI hj (by omega)).mp h'; omega) (by decide)
def dCommitOf (C : zC) (c w : Int32) : Int64 := if okN C c then (if w = 0 then (C.1 c.toNatClampNeg).toInt64 else if w = 1 then (C.2.1 c.toNatClampNeg).toInt64 else if w = 2 then C.2.2.1 c.toNatClampNeg else if w = 3 then (C.2.2.2.1 c.toNatClampNeg).toInt64 else if w = 4 then (if c < cDn C then (C.2.2.2.2.1 c.toNatClampNeg).toInt64 else -4) else -1) else -1
theorem nI_ne {a b : Nat} (h : a ≠ b) (ha : a < 2 ^ 31) (hb : b < 2 ^ 31) : ¬ nI a = nI b := fun z => h ((nI_eq ha hb).mp z)
theorem d_commitOf {E : pm_E} {Q : pm_Q} {x : zD} {m : List va_E} {c w : Int32} (hc : okC (xC x)) (h : Q (some (.long (dCommitOf (xC x) c w))) (mkG x m)) : Sm E n_X8_commitOf 0 (pl_entry 3 [.ref 4, .int c, .int w], [], mkG x m, 0, 0) Q := by
  unfold dCommitOf at h
  refine pm_go (aX8_commitOf E) 100 rfl ?_
  conv => whnf
  refine ⟨trivial, c_has (x := x) (fun q => ?_) (fun q => ?_)⟩
  · rw [if_pos q] at h
    have hin := okN_in hc q
    conv => whnf
    refine ⟨fun _ => ?_, fun z => absurd z (by decide)⟩
    conv => whnf
    refine ⟨fun k t hk hw => ?_, fun hw => ?_⟩
    · match k, hk with
      | 0, hk =>
        cases hk
        obtain rfl : w = 0 := hw
        rw [if_pos rfl] at h
        conv => whnf
        refine ⟨hin, ?_⟩
        conv => whnf
        exact ⟨trivial, h⟩
      | 1, hk =>
        cases hk
        obtain rfl : w = 1 := hw
        rw [if_neg (by decide), if_pos rfl] at h
        conv => whnf
        refine ⟨hin, ?_⟩
        conv => whnf
        exact ⟨trivial, h⟩
      | 2, hk =>
        cases hk
        obtain rfl : w = 2 := hw
        rw [if_neg (by decide), if_neg (by decide), if_pos rfl] at h
        conv => whnf
        refine ⟨hin, ?_⟩
        conv => whnf
        exact ⟨trivial, h⟩
      | 3, hk =>
        cases hk
        obtain rfl : w = 3 := hw
        rw [if_neg (by decide), if_neg (by decide), if_neg (by decide), if_pos rfl] at h
        conv => whnf
        refine ⟨hin, ?_⟩
        conv => whnf
        exact ⟨trivial, h⟩
      | 4, hk =>
        cases hk
        obtain rfl : w = 4 := hw
        rw [if_neg (by decide), if_neg (by decide), if_neg (by decide), if_neg (by decide), if_pos rfl] at h
        conv => whnf
        refine ⟨trivial, c_isOpen (x := x) (fun q2 => ?_) (fun q2 => ?_)⟩
        · rw [if_neg q2] at h
          conv => whnf
          refine ⟨fun z => absurd z (by decide), fun _ => ?_⟩
          conv => whnf
          exact ⟨trivial, h⟩
        · rw [if_pos q2] at h
          conv => whnf
          refine ⟨fun _ => ?_, fun z => absurd rfl z⟩
          conv => whnf
          refine ⟨hin, ?_⟩
          conv => whnf
          exact ⟨trivial, h⟩
      | k + 5, hk => simp at hk
    · have n0 : ∀ j : Nat, j < 5 → ¬ w = nI j := by
        intro j hj e
        rw [e] at hw
        rcases hw with z | z
        · exact nI_pos (by omega) z
        · exact nI_ge (b := 5) hj (by decide) z
      rw [if_neg (show ¬ w = 0 from n0 0 (by omega)), if_neg (show ¬ w = 1 from n0 1 (by omega)), if_neg (show ¬ w = 2 from n0 2 (by omega)), if_neg (show ¬ w = 3 from n0 3 (by omega)), if_neg (show ¬ w = 4 from n0 4 (by omega))] at h
      conv => whnf
      exact ⟨trivial, h⟩
  · rw [if_neg q] at h
    conv => whnf
    refine ⟨fun z => absurd rfl z, fun _ => ?_⟩
    conv => whnf
    exact ⟨trivial, h⟩
/-- how long one has to wait, from w ticks on -/
def dWt (S : zS) (st : Int64) : Nat → Nat → Int32
  | 0, _ => -4
  | n + 1, w => if okG (lAt S (S.2.2 + nI w)) ∧ st < beg (lAt S (S.2.2 + nI w)) then nI w else dWt S st n (w + 1)
theorem l_wait {E : pm_E} {Q : pm_Q} {x : zD} {m : List va_E} {c : Int32} {st : Int64} : ∀ (n w : Nat) (A : zA), w + n = 2001 → (∀ A', Q (some (.int (dWt (xS x) st n w))) (mkG (sA x A') m)) → Sm E n_X8_waiting 49 ([some (.ref 4), some (.int c), some (.long st), none, some (.int (nI w))], [], mkG (sA x A) m, 0, 0) Q := by
  intro n
  induction n with
  | zero =>
    intro w A hw h
    obtain rfl : w = 2001 := by omega
    refine pm_lp (aX8_waiting E) 100 49 rfl ?_
    conv => whnf
    refine ⟨fun _ => ?_, fun q => absurd (show (2000 : Int32) < nI 2001 by decide) q⟩
    conv => whnf
    exact ⟨trivial, h A⟩
  | succ n ih =>
    intro w A hw h
    refine pm_lp (aX8_waiting E) 100 49 rfl ?_
    conv => whnf
    refine ⟨fun q => absurd (show nI 2000 < nI w from q) (nI_nlt (by omega) (by omega)), fun _ => ?_⟩
    conv => whnf
    refine ⟨trivial, c_look (x := sA x A) (fun A' hA => ?_)⟩
    have hA : AF A' (lAt (xS x) ((xS x).2.2 + nI w)) := hA
    rw [dWt] at h
    have nxt := fun hh => ih (w + 1) A' (by omega) hh
    rw [nI_succ] at nxt
    conv => whnf
    refine ⟨trivial, c_goodF (x := sA x A') hA (fun q => ?_) (fun q => ?_)⟩
    · conv => whnf
      refine ⟨fun z => absurd z (by decide), fun _ => ?_⟩
      conv => whnf
      refine ⟨fun q2 => ?_, fun q2 => ?_⟩
      · have q2' : ¬ st < beg (lAt (xS x) ((xS x).2.2 + nI w)) := by rw [← hA.beg]; exact Int64.not_lt.mpr q2
        rw [if_neg (fun z => q2' z.2)] at h
        conv => whnf
        exact ⟨trivial, nxt h⟩
      · have q2' : st < beg (lAt (xS x) ((xS x).2.2 + nI w)) := by rw [← hA.beg]; exact Int64.not_le.mp q2
        rw [if_pos ⟨q, q2'⟩] at h
        conv => whnf
        exact ⟨trivial, h A'⟩
    · rw [if_neg (fun z => q z.1)] at h
      conv => whnf
      refine ⟨fun _ => ?_, fun z => absurd rfl z⟩
      conv => whnf
      exact ⟨trivial, nxt h⟩
def dWait (S : zS) (c : Int32) : Int32 := if okN S.2.1 c then (if c < cDn S.2.1 then -2 else dWt S (S.2.1.2.2.1 c.toNatClampNeg) 2001 0) else -1
theorem d_waiting {E : pm_E} {Q : pm_Q} {x : zD} {m : List va_E} {c : Int32} (hc : okC (xC x)) (h : ∀ A', Q (some (.int (dWait (xS x) c))) (mkG (sA x A') m)) : Sm E n_X8_waiting 0 (pl_entry 5 [.ref 4, .int c], [], mkG x m, 0, 0) Q := by
  unfold dWait at h
  refine pm_go (aX8_waiting E) 100 rfl ?_
  conv => whnf
  refine ⟨trivial, c_has (x := x) (fun q => ?_) (fun q => ?_)⟩
  · rw [if_pos q] at h
    have hin := okN_in hc q
    conv => whnf
    refine ⟨fun _ => ?_, fun z => absurd z (by decide)⟩
    conv => whnf
    refine ⟨trivial, c_isOpen (x := x) (fun q2 => ?_) (fun q2 => ?_)⟩
    · rw [if_neg q2] at h
      conv => whnf
      refine ⟨fun _ => ?_, fun z => absurd z (by decide)⟩
      conv => whnf
      refine ⟨hin, ?_⟩
      conv => whnf
      refine ⟨trivial, ?_⟩
      exact l_wait (E := E) (Q := Q) (x := x) (m := m) (c := c) 2001 0 (xA x) (by omega) h
    · rw [if_pos q2] at h
      conv => whnf
      refine ⟨fun z => absurd rfl z, fun _ => ?_⟩
      conv => whnf
      exact ⟨trivial, h (xA x)⟩
  · rw [if_neg q] at h
    conv => whnf
    refine ⟨fun z => absurd rfl z, fun _ => ?_⟩
    conv => whnf
    exact ⟨trivial, h (xA x)⟩
def dLast (C : zC) : Int64 := if cSz C ≤ 0 then -2000000000000 else C.2.2.1 (cSz C - 1).toNatClampNeg
def dSafe (S : zS) : Int64 := if 0 < cSz S.2.1 - cDn S.2.1 then S.2.1.2.2.1 (cDn S.2.1).toNatClampNeg - 1 else if okG (lS S) then (if dLast S.2.1 < beg (lS S) - 1 then beg (lS S) - 1 else dLast S.2.1) else dLast S.2.1
theorem okC_last {C : zC} (hc : okC C) (h : ¬ cSz C ≤ 0) : vp_in (cSz C - 1) 16 := by
  obtain ⟨d, s, h1, h2, h3, h4⟩ := hc
  rw [h3] at h ⊢
  have hs : 0 < s := by
    rcases Nat.eq_zero_or_pos s with z | z
    · rw [z] at h; exact absurd (by decide) h
    · exact z
  obtain ⟨t, rfl⟩ : ∃ t, s = t + 1 := ⟨s - 1, by omega⟩
  rw [nI_pred]
  exact vp_in_nI (by omega) (by decide)
theorem d_safe {E : pm_E} {Q : pm_Q} {x : zD} {m : List va_E} (hc : okC (xC x)) (h : ∀ A', Q (some (.long (dSafe (xS x)))) (mkG (sA x A') m)) : Sm E n_X8_safe 0 (pl_entry 4 [.ref 4], [], mkG x m, 0, 0) Q := by
  unfold dSafe at h
  refine pm_go (aX8_safe E) 100 rfl ?_
  conv => whnf
  refine ⟨trivial, c_open (x := x) ?_⟩
  conv => whnf
  refine ⟨fun q => ?_, fun q => ?_⟩
  · rw [if_neg (Int32.not_lt.mpr q)] at h
    conv => whnf
    refine ⟨trivial, d_look (x := x) (fun A' hA => ?_)⟩
    have h := h A'
    conv => whnf
    refine ⟨fun q2 => ?_, fun q2 => ?_⟩
    · have e : dLast (xS x).2.1 = -2000000000000 := if_pos q2
      rw [e] at h
      conv => whnf
      refine ⟨trivial, c_goodF (x := sA x A') hA (fun q4 => ?_) (fun q4 => ?_)⟩
      · rw [if_pos q4, ← hA.beg] at h
        conv => whnf
        refine ⟨fun z => absurd z (by decide), fun _ => ?_⟩
        conv => whnf
        exact ⟨trivial, h⟩
      · rw [if_neg q4] at h
        conv => whnf
        refine ⟨fun _ => ?_, fun z => absurd rfl z⟩
        conv => whnf
        exact ⟨trivial, h⟩
    · have e : dLast (xS x).2.1 = (xC x).2.2.1 (cSz (xC x) - 1).toNatClampNeg := if_neg q2
      rw [e] at h
      conv => whnf
      refine ⟨trivial, c_latest (x := sA x A') (okC_last hc q2) ?_⟩
      conv => whnf
      refine ⟨trivial, c_goodF (x := sA x A') hA (fun q4 => ?_) (fun q4 => ?_)⟩
      · rw [if_pos q4, ← hA.beg] at h
        conv => whnf
        refine ⟨fun z => absurd z (by decide), fun _ => ?_⟩
        conv => whnf
        exact ⟨trivial, h⟩
      · rw [if_neg q4] at h
        conv => whnf
        refine ⟨fun _ => ?_, fun z => absurd rfl z⟩
        conv => whnf
        exact ⟨trivial, h⟩
  · rw [if_pos (Int32.not_le.mp q)] at h
    have hin : vp_in (cDn (xC x)) 16 := by
      obtain ⟨d, s, h1, h2, h3, h4⟩ := hc
      rw [h4]
      refine vp_in_nI ?_ (by decide)
      rcases Nat.lt_or_ge d 16 with z | z
      · exact z
      · obtain rfl : d = s := by omega
        exact absurd (show cSz (xC x) - cDn (xC x) ≤ 0 by rw [h3, h4, pk_sub (Nat.le_refl _), Nat.sub_self]; decide) q
    conv => whnf
    refine ⟨trivial, c_leastOpen (x := x) hin ?_⟩
    conv => whnf
    exact ⟨trivial, h (xA x)⟩
def dRead (S : zS) (k : Int32) (t : Int64) : Int32 := if (0 ≤ k ∧ k < 6) ∧ okT t then (if dSafe S < t then -2 else vF k t S.2.1 (cSz S.2.1).toNatClampNeg) else -1
theorem okC_sz {C : zC} (hc : okC C) : ∃ s : Nat, s ≤ 16 ∧ cSz C = nI s ∧ (cSz C).toNatClampNeg = s := by
  obtain ⟨d, s, h1, h2, h3, h4⟩ := hc
  exact ⟨s, h2, h3, by rw [h3]; exact nI_clamp (by omega)⟩
theorem d_read {E : pm_E} {Q : pm_Q} {x : zD} {m : List va_E} {k : Int32} {t : Int64} (hc : okC (xC x)) (h : ∀ A', Q (some (.int (dRead (xS x) k t))) (mkG (sA x A') m)) : Sm E n_X8_read 0 (pl_entry 4 [.ref 4, .int k, .long t], [], mkG x m, 0, 0) Q := by
  unfold dRead at h
  refine pm_go (aX8_read E) 100 rfl ?_
  conv => whnf
  refine ⟨trivial, c_isKey (fun q => ?_) (fun q => ?_)⟩
  · conv => whnf
    refine ⟨fun z => absurd z (by decide), fun _ => ?_⟩
    conv => whnf
    refine ⟨trivial, c_isAsked (fun q2 => ?_) (fun q2 => ?_)⟩
    · rw [if_pos ⟨q, q2⟩] at h
      conv => whnf
      refine ⟨fun _ => ?_, fun z => absurd z (by decide)⟩
      conv => whnf
      refine ⟨trivial, d_safe (x := x) hc (fun A' => ?_)⟩
      have h := h A'
      conv => whnf
      refine ⟨fun q3 => ?_, fun q3 => ?_⟩
      · rw [if_neg (Int64.not_lt.mpr q3)] at h
        obtain ⟨s, hs, e1, e2⟩ := okC_sz hc
        rw [e2] at h
        conv => whnf
        refine ⟨trivial, c_val (x := sA x A') hs e1 ?_⟩
        conv => whnf
        exact ⟨trivial, h⟩
      · rw [if_pos (Int64.not_le.mp q3)] at h
        conv => whnf
        exact ⟨trivial, h⟩
    · rw [if_neg (fun z => q2 z.2)] at h
      conv => whnf
      refine ⟨fun z => absurd rfl z, fun _ => ?_⟩
      conv => whnf
      exact ⟨trivial, h (xA x)⟩
  · rw [if_neg (fun z => q z.1)] at h
    conv => whnf
    refine ⟨fun _ => ?_, fun z => absurd rfl z⟩
    conv => whnf
    exact ⟨trivial, h (xA x)⟩
def dBtw (C : zC) (k : Int32) (a b : Int64) : Int32 := if (k = -1 ∨ (0 ≤ k ∧ k < 6)) ∧ okT a ∧ okT b ∧ a ≤ b then nI (nF k a b C (cSz C).toNatClampNeg) else -1
theorem d_between {E : pm_E} {Q : pm_Q} {x : zD} {m : List va_E} {k : Int32} {a b : Int64} (hc : okC (xC x)) (h : Q (some (.int (dBtw (xC x) k a b))) (mkG x m)) : Sm E n_X8_between 0 (pl_entry 6 [.ref 4, .int k, .long a, .long b], [], mkG x m, 0, 0) Q := by
  unfold dBtw at h
  have rest : (k = -1 ∨ (0 ≤ k ∧ k < 6)) → ∀ N : Nat, N = 80 → nP E n_X8_between tX8_between N (pm_at tX8_between 14) (pl_entry 6 [.ref 4, .int k, .long a, .long b], [], mkG x m, 0, 0) Q := by
    intro q N hN
    subst hN
    conv => whnf
    refine ⟨trivial, c_isAsked (fun q2 => ?_) (fun q2 => ?_)⟩
    · conv => whnf
      refine ⟨fun z => absurd z (by decide), fun _ => ?_⟩
      conv => whnf
      refine ⟨trivial, c_isAsked (fun q3 => ?_) (fun q3 => ?_)⟩
      · conv => whnf
        refine ⟨fun z => absurd z (by decide), fun _ => ?_⟩
        conv => whnf
        refine ⟨fun q4 => ?_, fun q4 => ?_⟩
        · rw [if_pos ⟨q, q2, q3, q4⟩] at h
          obtain ⟨s, hs, e1, e2⟩ := okC_sz hc
          rw [e2] at h
          conv => whnf
          refine ⟨trivial, c_btw (x := x) hs e1 ?_⟩
          conv => whnf
          exact ⟨trivial, h⟩
        · rw [if_neg (fun z => q4 z.2.2.2)] at h
          conv => whnf
          exact ⟨trivial, h⟩
      · rw [if_neg (fun z => q3 z.2.2.1)] at h
        conv => whnf
        refine ⟨fun _ => ?_, fun z => absurd rfl z⟩
        conv => whnf
        exact ⟨trivial, h⟩
    · rw [if_neg (fun z => q2 z.2.1)] at h
      conv => whnf
      refine ⟨fun _ => ?_, fun z => absurd rfl z⟩
      conv => whnf
      exact ⟨trivial, h⟩
  by_cases q : k = -1
  · refine pm_go (aX8_between E) 83 rfl ?_
    conv => whnf
    refine ⟨fun _ => rest (Or.inl q) _ rfl, fun z => absurd q z⟩
  · refine pm_go (aX8_between E) 86 rfl ?_
    conv => whnf
    refine ⟨fun z => absurd z q, fun _ => ?_⟩
    conv => whnf
    refine ⟨trivial, c_isKey (fun q2 => ?_) (fun q2 => ?_)⟩
    · conv => whnf
      refine ⟨fun _ => rest (Or.inr q2) _ rfl, fun z => absurd z (by decide)⟩
    · rw [if_neg (fun z => z.1.elim q q2)] at h
      conv => whnf
      refine ⟨fun z => absurd rfl z, fun _ => ?_⟩
      conv => whnf
      exact ⟨trivial, h⟩
def dLeap (L : zL) (w : Int32) : Int64 := if w = 0 then L.1 else if w = 1 then L.2.1 else if w = 2 then L.2.2.1 else if w = 3 then L.2.2.2 else -1
theorem d_leap {E : pm_E} {Q : pm_Q} {x : zD} {m : List va_E} {w : Int32} (h : Q (some (.long (dLeap (xL x) w))) (mkG x m)) : Sm E n_X8_leap 0 (pl_entry 2 [.ref 4, .int w], [], mkG x m, 0, 0) Q := by
  unfold dLeap at h
  refine pm_go (aX8_leap E) 100 rfl ?_
  conv => whnf
  refine ⟨fun k t hk hw => ?_, fun hw => ?_⟩
  · match k, hk with
    | 0, hk =>
      cases hk
      obtain rfl : w = 0 := hw
      conv => whnf
      exact ⟨trivial, h⟩
    | 1, hk =>
      cases hk
      obtain rfl : w = 1 := hw
      conv => whnf
      exact ⟨trivial, h⟩
    | 2, hk =>
      cases hk
      obtain rfl : w = 2 := hw
      conv => whnf
      exact ⟨trivial, h⟩
    | 3, hk =>
      cases hk
      obtain rfl : w = 3 := hw
      conv => whnf
      exact ⟨trivial, h⟩
    | k + 4, hk => simp at hk
  · have n0 : ∀ j : Nat, j < 4 → ¬ w = nI j := by
      intro j hj e
      rw [e] at hw
      rcases hw with z | z
      · exact nI_pos (by omega) z
      · exact nI_ge (b := 4) hj (by decide) z
    rw [if_neg (show ¬ w = 0 from n0 0 (by omega)), if_neg (show ¬ w = 1 from n0 1 (by omega)), if_neg (show ¬ w = 2 from n0 2 (by omega)), if_neg (show ¬ w = 3 from n0 3 (by omega))] at h
    conv => whnf
    exact ⟨trivial, h⟩
def dSmeared (L : zL) (t : Int64) : Int64 := if okT t then dSmear L t else -2000000000000
theorem d_smeared {E : pm_E} {Q : pm_Q} {x : zD} {m : List va_E} {t : Int64} (h : Q (some (.long (dSmeared (xL x) t))) (mkG x m)) : Sm E n_X8_smeared 0 (pl_entry 3 [.ref 4, .long t], [], mkG x m, 0, 0) Q := by
  unfold dSmeared at h
  refine pm_go (aX8_smeared E) 100 rfl ?_
  conv => whnf
  refine ⟨trivial, c_isAsked (fun q => ?_) (fun q => ?_)⟩
  · rw [if_pos q] at h
    conv => whnf
    refine ⟨fun z => absurd z (by decide), fun _ => ?_⟩
    conv => whnf
    refine ⟨trivial, c_smear (x := x) ?_⟩
    conv => whnf
    exact ⟨trivial, h⟩
  · rw [if_neg q] at h
    conv => whnf
    refine ⟨fun _ => ?_, fun z => absurd rfl z⟩
    conv => whnf
    exact ⟨trivial, h⟩
def dBk (L : zL) (t : Int64) : Int64 := if okT t then dBack L t else -1
theorem d_back {E : pm_E} {Q : pm_Q} {x : zD} {m : List va_E} {t : Int64} (h : Q (some (.long (dBk (xL x) t))) (mkG x m)) : Sm E n_X8_back 0 (pl_entry 3 [.ref 4, .long t], [], mkG x m, 0, 0) Q := by
  unfold dBk at h
  refine pm_go (aX8_back E) 100 rfl ?_
  conv => whnf
  refine ⟨trivial, c_isAsked (fun q => ?_) (fun q => ?_)⟩
  · rw [if_pos q] at h
    conv => whnf
    refine ⟨fun z => absurd z (by decide), fun _ => ?_⟩
    conv => whnf
    refine ⟨trivial, c_least2 (x := x) ?_⟩
    conv => whnf
    exact ⟨trivial, h⟩
  · rw [if_neg q] at h
    conv => whnf
    refine ⟨fun _ => ?_, fun z => absurd rfl z⟩
    conv => whnf
    exact ⟨trivial, h⟩
def dCount (x : zD) (w : Int32) : Int32 := if w = 0 then (xS x).2.2 else if w = 1 then (xS x).1.2.2.2.2.2 else if w = 2 then nHd (xS x).1 else if w = 3 then bc (xS x).1.2.2.2.2.1 else if w = 4 then cSz (xC x) else if w = 5 then cSz (xC x) - cDn (xC x) else if w = 6 then (xP x).2.2 else if w = 7 then (xT x).2 else -1
theorem d_count {E : pm_E} {Q : pm_Q} {x : zD} {m : List va_E} {w : Int32} (h : Q (some (.int (dCount x w))) (mkG x m)) : Sm E n_X8_count 0 (pl_entry 2 [.ref 4, .int w], [], mkG x m, 0, 0) Q := by
  unfold dCount at h
  refine pm_go (aX8_count E) 100 rfl ?_
  conv => whnf
  refine ⟨fun k t hk hw => ?_, fun hw => ?_⟩
  · match k, hk with
    | 0, hk =>
      cases hk
      obtain rfl : w = 0 := hw
      conv => whnf
      exact ⟨trivial, h⟩
    | 1, hk =>
      cases hk
      obtain rfl : w = 1 := hw
      conv => whnf
      exact ⟨trivial, h⟩
    | 2, hk =>
      cases hk
      obtain rfl : w = 2 := hw
      conv => whnf
      refine ⟨trivial, c_many (x := x) ?_⟩
      conv => whnf
      exact ⟨trivial, h⟩
    | 3, hk =>
      cases hk
      obtain rfl : w = 3 := hw
      conv => whnf
      refine ⟨trivial, c_bc ?_⟩
      conv => whnf
      exact ⟨trivial, h⟩
    | 4, hk =>
      cases hk
      obtain rfl : w = 4 := hw
      conv => whnf
      exact ⟨trivial, h⟩
    | 5, hk =>
      cases hk
      obtain rfl : w = 5 := hw
      conv => whnf
      refine ⟨trivial, c_open (x := x) ?_⟩
      conv => whnf
      exact ⟨trivial, h⟩
    | 6, hk =>
      cases hk
      obtain rfl : w = 6 := hw
      conv => whnf
      exact ⟨trivial, h⟩
    | 7, hk =>
      cases hk
      obtain rfl : w = 7 := hw
      conv => whnf
      exact ⟨trivial, h⟩
    | k + 8, hk => simp at hk
  · have n0 : ∀ j : Nat, j < 8 → ¬ w = nI j := by
      intro j hj e
      rw [e] at hw
      rcases hw with z | z
      · exact nI_pos (by omega) z
      · exact nI_ge (b := 8) hj (by decide) z
    rw [if_neg (show ¬ w = 0 from n0 0 (by omega)), if_neg (show ¬ w = 1 from n0 1 (by omega)), if_neg (show ¬ w = 2 from n0 2 (by omega)), if_neg (show ¬ w = 3 from n0 3 (by omega)), if_neg (show ¬ w = 4 from n0 4 (by omega)), if_neg (show ¬ w = 5 from n0 5 (by omega)), if_neg (show ¬ w = 6 from n0 6 (by omega)), if_neg (show ¬ w = 7 from n0 7 (by omega))] at h
    conv => whnf
    exact ⟨trivial, h⟩
