/-! ===== commits ===== -/
abbrev xC (x : zD) : zC := (xS x).2.1
def sC (x : zD) (c : zC) : zD := sS x ((xS x).1, c, (xS x).2.2)
abbrev cSz (C : zC) : Int32 := C.2.2.2.2.2.1
abbrev cDn (C : zC) : Int32 := C.2.2.2.2.2.2
theorem c_has {E : pm_E} {Q : pm_Q} {x : zD} {m : List va_E} {c : Int32} (h1 : 0 ≤ c ∧ c < cSz (xC x) → Q (some (.int 1)) (mkG x m)) (h0 : ¬ (0 ≤ c ∧ c < cSz (xC x)) → Q (some (.int 0)) (mkG x m)) : Sm E n_X1_has 0 (pl_entry 2 [.ref 14, .int c], [], mkG x m, 0, 0) Q := by
  refine pm_go (aX1_has E) 100 rfl ?_
  conv => whnf
  refine ⟨fun q => ?_, fun q => ?_⟩
  · conv => whnf
    exact ⟨rfl, h0 (fun z => Int32.not_lt.mpr z.1 q)⟩
  conv => whnf
  refine ⟨fun q2 => ?_, fun q2 => ?_⟩
  · conv => whnf
    exact ⟨rfl, h0 (fun z => Int32.not_lt.mpr q2 z.2)⟩
  conv => whnf
  exact ⟨rfl, h1 ⟨Int32.not_lt.mp q, Int32.not_le.mp q2⟩⟩
theorem c_isOpen {E : pm_E} {Q : pm_Q} {x : zD} {m : List va_E} {c : Int32} (h1 : ¬ c < cDn (xC x) → Q (some (.int 1)) (mkG x m)) (h0 : c < cDn (xC x) → Q (some (.int 0)) (mkG x m)) : Sm E n_X1_isOpen 0 (pl_entry 2 [.ref 14, .int c], [], mkG x m, 0, 0) Q := by
  refine pm_go (aX1_isOpen E) 100 rfl ?_
  conv => whnf
  refine ⟨fun q => ?_, fun q => ?_⟩
  · conv => whnf
    exact ⟨rfl, h0 q⟩
  conv => whnf
  exact ⟨rfl, h1 q⟩
theorem c_open {E : pm_E} {Q : pm_Q} {x : zD} {m : List va_E} (h : Q (some (.int (cSz (xC x) - cDn (xC x)))) (mkG x m)) : Sm E n_X1_howManyOpen 0 (pl_entry 1 [.ref 14], [], mkG x m, 0, 0) Q := by
  refine pm_go (aX1_howManyOpen E) 100 rfl ?_
  conv => whnf
  exact ⟨trivial, h⟩
theorem c_latest {E : pm_E} {Q : pm_Q} {x : zD} {m : List va_E} (hi : vp_in (cSz (xC x) - 1) 16) (h : Q (some (.long ((xC x).2.2.1 (cSz (xC x) - 1).toNatClampNeg))) (mkG x m)) : Sm E n_X1_latestStamp 0 (pl_entry 1 [.ref 14], [], mkG x m, 0, 0) Q := by
  refine pm_go (aX1_latestStamp E) 100 rfl ?_
  conv => whnf
  refine ⟨hi, ?_⟩
  conv => whnf
  exact ⟨trivial, h⟩
theorem c_leastOpen {E : pm_E} {Q : pm_Q} {x : zD} {m : List va_E} (hi : vp_in (cDn (xC x)) 16) (h : Q (some (.long ((xC x).2.2.1 (cDn (xC x)).toNatClampNeg))) (mkG x m)) : Sm E n_X1_leastOpenStamp 0 (pl_entry 1 [.ref 14], [], mkG x m, 0, 0) Q := by
  refine pm_go (aX1_leastOpenStamp E) 100 rfl ?_
  conv => whnf
  refine ⟨hi, ?_⟩
  conv => whnf
  exact ⟨trivial, h⟩
/-- the stamp of the next commit -/
def dStamp (C : zC) (a : Int64) : Int64 := if cSz C ≤ 0 then a else (if C.2.2.1 (cSz C - 1).toNatClampNeg + 1 < a then a else C.2.2.1 (cSz C - 1).toNatClampNeg + 1)
def dMake (C : zC) (k v : Int32) (a : Int64) (t : Int32) : zC := (upd C.1 (cSz C).toNatClampNeg k, upd C.2.1 (cSz C).toNatClampNeg v, vp_updL C.2.2.1 (cSz C).toNatClampNeg (dStamp C a), upd C.2.2.2.1 (cSz C).toNatClampNeg t, C.2.2.2.2.1, cSz C + 1, cDn C)
theorem c_make {E : pm_E} {Q : pm_Q} {x : zD} {m : List va_E} {k v t : Int32} {a : Int64} (hi : vp_in (cSz (xC x)) 16) (h : Q none (mkG (sC x (dMake (xC x) k v a t)) m)) : Sm E n_X1_make 0 (pl_entry 6 [.ref 14, .int k, .int v, .long a, .int t], [], mkG x m, 0, 0) Q := by
  refine pm_go (aX1_make E) 100 rfl ?_
  conv => whnf
  refine ⟨hi, ?_⟩
  conv => whnf
  refine ⟨hi, ?_⟩
  conv => whnf
  refine ⟨fun q => ?_, fun q => ?_⟩
  · have e : dStamp (xC x) a = a := if_pos q
    unfold dMake at h
    rw [e] at h
    conv => whnf
    refine ⟨hi, ?_⟩
    conv => whnf
    refine ⟨hi, ?_⟩
    conv => whnf
    exact ⟨trivial, h⟩
  · have e : dStamp (xC x) a = (if (xC x).2.2.1 (cSz (xC x) - 1).toNatClampNeg + 1 < a then a else (xC x).2.2.1 (cSz (xC x) - 1).toNatClampNeg + 1) := if_neg q
    unfold dMake at h
    rw [e] at h
    have hj : vp_in (cSz (xC x) - 1) 16 := by
      have q' : ¬ (cSz (xC x)).toInt ≤ 0 := fun z => q (Int32.le_iff_toInt_le.mpr (by simpa using z))
      have h16 := vp_in_iff.mp hi
      refine vp_in_iff.mpr ?_
      have e1 : (cSz (xC x) - 1).toInt = (cSz (xC x)).toInt - 1 := by
        rw [Int32.toInt_sub]
        show ((cSz (xC x)).toInt - 1).bmod (2 ^ 32) = _
        rw [Int.bmod_eq_of_le (by omega) (by omega)]
      rw [e1]
      omega
    conv => whnf
    refine ⟨trivial, c_latest (x := sS x ((xS x).1, (upd (xC x).1 (cSz (xC x)).toNatClampNeg k, upd (xC x).2.1 (cSz (xC x)).toNatClampNeg v, (xC x).2.2), (xS x).2.2)) hj ?_⟩
    conv => whnf
    refine ⟨hi, ?_⟩
    conv => whnf
    refine ⟨hi, ?_⟩
    conv => whnf
    exact ⟨trivial, h⟩
/-- commits become done, from the first open one on -/
def dFin (b : Int64) (t : Int32) : Nat → zC → zC
  | 0, C => C
  | n + 1, C => if C.2.2.1 (cDn C).toNatClampNeg < b then dFin b t n (C.1, C.2.1, C.2.2.1, C.2.2.2.1, upd C.2.2.2.2.1 (cDn C).toNatClampNeg t, cSz C, cDn C + 1) else C
theorem l_fin {E : pm_E} {Q : pm_Q} {x : zD} {m : List va_E} {b : Int64} {t : Int32} : ∀ (n d s : Nat) (C : zC), d + n = s → s ≤ 16 → cSz C = nI s → cDn C = nI d → Q none (mkG (sC x (dFin b t n C)) m) → Sm E n_X1_finishBelow 0 ([some (.ref 14), some (.long b), none, some (.int t)], [], mkG (sC x C) m, 0, 0) Q := by
  intro n
  induction n with
  | zero =>
    intro d s C hd hs h1 h2 h
    refine pm_lp (aX1_finishBelow E) 100 0 rfl ?_
    conv => whnf
    refine ⟨fun _ => ?_, fun q => absurd (show cSz C ≤ cDn C by rw [h1, h2]; exact nI_le (by omega) (by omega)) q⟩
    conv => whnf
    exact ⟨trivial, h⟩
  | succ n ih =>
    intro d s C hd hs h1 h2 h
    have hin : vp_in (cDn C) 16 := by rw [h2]; exact vp_in_nI (by omega) (by decide)
    refine pm_lp (aX1_finishBelow E) 100 0 rfl ?_
    conv => whnf
    refine ⟨fun q => absurd (show cSz C ≤ cDn C from q) (by rw [h1, h2]; exact nI_ge (by omega) (by omega)), fun _ => ?_⟩
    conv => whnf
    refine ⟨hin, ?_⟩
    conv => whnf
    rw [dFin] at h
    refine ⟨fun q => ?_, fun q => ?_⟩
    · have q' : b ≤ C.2.2.1 (cDn C).toNatClampNeg := q
      rw [if_neg (Int64.not_lt.mpr q')] at h
      conv => whnf
      exact ⟨trivial, h⟩
    · have q' : ¬ b ≤ C.2.2.1 (cDn C).toNatClampNeg := q
      rw [if_pos (Int64.not_le.mp q')] at h
      conv => whnf
      refine ⟨hin, ?_⟩
      conv => whnf
      refine ⟨trivial, ?_⟩
      exact ih (d + 1) s (C.1, C.2.1, C.2.2.1, C.2.2.2.1, upd C.2.2.2.2.1 (cDn C).toNatClampNeg t, cSz C, cDn C + 1) (by omega) hs h1 (by show cDn C + 1 = _; rw [h2, nI_succ]) h
theorem c_fin {E : pm_E} {Q : pm_Q} {x : zD} {m : List va_E} {b : Int64} {t : Int32} {d s : Nat} (hd : d ≤ s) (hs : s ≤ 16) (h1 : cSz (xC x) = nI s) (h2 : cDn (xC x) = nI d) (h : Q none (mkG (sC x (dFin b t (s - d) (xC x))) m)) : Sm E n_X1_finishBelow 0 (pl_entry 4 [.ref 14, .long b, .int t], [], mkG x m, 0, 0) Q :=
  l_fin (x := x) (s - d) d s (xC x) (by omega) hs h1 h2 h
/-- the value of a key as of a tick, among the first i -/
def vF (k : Int32) (t : Int64) (C : zC) : Nat → Int32
  | 0 => -4
  | i + 1 => if C.1 i = k ∧ C.2.2.1 i ≤ t then C.2.1 i else vF k t C i
theorem l_val {E : pm_E} {Q : pm_Q} {x : zD} {m : List va_E} {k : Int32} {t : Int64} {s : Nat} (hs : s ≤ 16) (h1 : cSz (xC x) = nI s) (h : Q (some (.int (vF k t (xC x) s))) (mkG x m)) : ∀ (n i : Nat), i + n = s → Sm E n_X1_valueAsOf 7 ([some (.ref 14), some (.int k), some (.long t), none, some (.int (vF k t (xC x) i)), some (.int (nI i))], [], mkG x m, 0, 0) Q := by
  intro n
  induction n with
  | zero =>
    intro i hi
    obtain rfl : i = s := by omega
    refine pm_lp (aX1_valueAsOf E) 100 7 rfl ?_
    conv => whnf
    refine ⟨fun _ => ?_, fun q => absurd (show cSz (xC x) ≤ nI i by rw [h1]; exact nI_le (by omega) (by omega)) q⟩
    conv => whnf
    exact ⟨trivial, h⟩
  | succ n ih =>
    intro i hi
    have hin : vp_in (nI i) 16 := vp_in_nI (by omega) (by decide)
    have hcl : (nI i).toNatClampNeg = i := nI_clamp (by omega)
    have nxt := ih (i + 1) (by omega)
    rw [nI_succ, vF] at nxt
    refine pm_lp (aX1_valueAsOf E) 100 7 rfl ?_
    conv => whnf
    refine ⟨fun q => absurd (show cSz (xC x) ≤ nI i from q) (by rw [h1]; exact nI_ge (by omega) (by omega)), fun _ => ?_⟩
    conv => whnf
    refine ⟨hin, ?_⟩
    conv => whnf
    refine ⟨fun q => ?_, fun q => ?_⟩
    · have q' : ¬ (xC x).1 i = k := by rw [← hcl]; exact q
      rw [if_neg (fun z => q' z.1)] at nxt
      conv => whnf
      exact ⟨trivial, nxt⟩
    · have q' : (xC x).1 i = k := by rw [← hcl]; exact q
      conv => whnf
      refine ⟨hin, ?_⟩
      conv => whnf
      refine ⟨fun q2 => ?_, fun q2 => ?_⟩
      · have q2' : ¬ (xC x).2.2.1 i ≤ t := by rw [← hcl]; exact Int64.not_le.mpr q2
        rw [if_neg (fun z => q2' z.2)] at nxt
        conv => whnf
        exact ⟨trivial, nxt⟩
      · have q2' : (xC x).2.2.1 i ≤ t := by rw [← hcl]; exact Int64.not_lt.mp q2
        rw [if_pos ⟨q', q2'⟩] at nxt
        conv => whnf
        refine ⟨hin, ?_⟩
        conv => whnf
        refine ⟨trivial, ?_⟩
        have e : (xC x).2.1 (nI i).toNatClampNeg = (xC x).2.1 i := by rw [hcl]
        rw [← e] at nxt
        exact nxt
theorem c_val {E : pm_E} {Q : pm_Q} {x : zD} {m : List va_E} {k : Int32} {t : Int64} {s : Nat} (hs : s ≤ 16) (h1 : cSz (xC x) = nI s) (h : Q (some (.int (vF k t (xC x) s))) (mkG x m)) : Sm E n_X1_valueAsOf 0 (pl_entry 6 [.ref 14, .int k, .long t], [], mkG x m, 0, 0) Q := by
  refine pm_go (aX1_valueAsOf E) 100 rfl ?_
  conv => whnf
  refine ⟨trivial, ?_⟩
  exact l_val hs h1 h s 0 (by omega)
def nF (k : Int32) (a b : Int64) (C : zC) : Nat → Nat
  | 0 => 0
  | i + 1 => if (k = -1 ∨ C.1 i = k) ∧ a ≤ C.2.2.1 i ∧ C.2.2.1 i ≤ b then nF k a b C i + 1 else nF k a b C i
theorem l_btw {E : pm_E} {Q : pm_Q} {x : zD} {m : List va_E} {k : Int32} {a b : Int64} {s : Nat} (hs : s ≤ 16) (h1 : cSz (xC x) = nI s) (h : Q (some (.int (nI (nF k a b (xC x) s)))) (mkG x m)) : ∀ (n i : Nat) (o : Option Value), i + n = s → Sm E n_X1_howManyStamped 6 ([some (.ref 14), some (.int k), some (.long a), none, some (.long b), none, some (.int (nI (nF k a b (xC x) i))), some (.int (nI i)), o], [], mkG x m, 0, 0) Q := by
  intro n
  induction n with
  | zero =>
    intro i o hi
    obtain rfl : i = s := by omega
    refine pm_lp (aX1_howManyStamped E) 100 6 rfl ?_
    conv => whnf
    refine ⟨fun _ => ?_, fun q => absurd (show cSz (xC x) ≤ nI i by rw [h1]; exact nI_le (by omega) (by omega)) q⟩
    conv => whnf
    exact ⟨trivial, h⟩
  | succ n ih =>
    intro i o hi
    have hin : vp_in (nI i) 16 := vp_in_nI (by omega) (by decide)
    have hcl : (nI i).toNatClampNeg = i := nI_clamp (by omega)
    have nxt := fun o => ih (i + 1) o (by omega)
    simp only [nI_succ, nF] at nxt
    refine pm_lp (aX1_howManyStamped E) 100 6 rfl ?_
    conv => whnf
    refine ⟨fun q => absurd (show cSz (xC x) ≤ nI i from q) (by rw [h1]; exact nI_ge (by omega) (by omega)), fun _ => ?_⟩
    conv => whnf
    refine ⟨fun q => ?_, fun q => ?_⟩
    · conv => whnf
      refine ⟨fun z => absurd z (by decide), fun _ => ?_⟩
      conv => whnf
      have hk : k = -1 ∨ (xC x).1 i = k := Or.inl q
      refine ⟨hin, ?_⟩
      conv => whnf
      refine ⟨fun q2 => ?_, fun q2 => ?_⟩
      · have q2' : ¬ a ≤ (xC x).2.2.1 i := by rw [← hcl]; exact Int64.not_le.mpr q2
        conv => whnf
        refine ⟨trivial, ?_⟩
        have := nxt (some (.int 1))
        rw [if_neg (fun z => q2' z.2.1)] at this
        exact this
      · have q2' : a ≤ (xC x).2.2.1 i := by rw [← hcl]; exact Int64.not_lt.mp q2
        conv => whnf
        refine ⟨hin, ?_⟩
        conv => whnf
        refine ⟨fun q3 => ?_, fun q3 => ?_⟩
        · have q3' : ¬ (xC x).2.2.1 i ≤ b := by rw [← hcl]; exact Int64.not_le.mpr q3
          conv => whnf
          refine ⟨trivial, ?_⟩
          have := nxt (some (.int 1))
          rw [if_neg (fun z => q3' z.2.2)] at this
          exact this
        · have q3' : (xC x).2.2.1 i ≤ b := by rw [← hcl]; exact Int64.not_lt.mp q3
          conv => whnf
          refine ⟨trivial, ?_⟩
          have := nxt (some (.int 1))
          rw [if_pos ⟨hk, q2', q3'⟩, nI_succ] at this
          exact this
    · conv => whnf
      refine ⟨hin, ?_⟩
      conv => whnf
      refine ⟨fun q2 => ?_, fun q2 => ?_⟩
      · have q2' : ¬ (xC x).1 i = k := by rw [← hcl]; exact q2
        conv => whnf
        refine ⟨fun _ => ?_, fun z => absurd rfl z⟩
        conv => whnf
        refine ⟨trivial, ?_⟩
        have := nxt (some (.int 0))
        rw [if_neg (fun z => z.1.elim q q2')] at this
        exact this
      · have q2' : (xC x).1 i = k := by rw [← hcl]; exact q2
        conv => whnf
        refine ⟨fun z => absurd z (by decide), fun _ => ?_⟩
        conv => whnf
        have hk : k = -1 ∨ (xC x).1 i = k := Or.inr q2'
        refine ⟨hin, ?_⟩
        conv => whnf
        refine ⟨fun r2 => ?_, fun r2 => ?_⟩
        · have r2' : ¬ a ≤ (xC x).2.2.1 i := by rw [← hcl]; exact Int64.not_le.mpr r2
          conv => whnf
          refine ⟨trivial, ?_⟩
          have := nxt (some (.int 1))
          rw [if_neg (fun z => r2' z.2.1)] at this
          exact this
        · have r2' : a ≤ (xC x).2.2.1 i := by rw [← hcl]; exact Int64.not_lt.mp r2
          conv => whnf
          refine ⟨hin, ?_⟩
          conv => whnf
          refine ⟨fun q3 => ?_, fun q3 => ?_⟩
          · have q3' : ¬ (xC x).2.2.1 i ≤ b := by rw [← hcl]; exact Int64.not_le.mpr q3
            conv => whnf
            refine ⟨trivial, ?_⟩
            have := nxt (some (.int 1))
            rw [if_neg (fun z => q3' z.2.2)] at this
            exact this
          · have q3' : (xC x).2.2.1 i ≤ b := by rw [← hcl]; exact Int64.not_lt.mp q3
            conv => whnf
            refine ⟨trivial, ?_⟩
            have := nxt (some (.int 1))
            rw [if_pos ⟨hk, r2', q3'⟩, nI_succ] at this
            exact this
theorem c_btw {E : pm_E} {Q : pm_Q} {x : zD} {m : List va_E} {k : Int32} {a b : Int64} {s : Nat} (hs : s ≤ 16) (h1 : cSz (xC x) = nI s) (h : Q (some (.int (nI (nF k a b (xC x) s)))) (mkG x m)) : Sm E n_X1_howManyStamped 0 (pl_entry 9 [.ref 14, .int k, .long a, .long b], [], mkG x m, 0, 0) Q := by
  refine pm_go (aX1_howManyStamped E) 100 rfl ?_
  conv => whnf
  refine ⟨trivial, ?_⟩
  exact l_btw hs h1 h s 0 none (by omega)
