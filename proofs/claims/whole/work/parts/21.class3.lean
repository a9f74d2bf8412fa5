/-! ===== the leap ===== -/
def dShift (L : zL) (t : Int64) : Int64 := if t ≤ L.1 then 0 else if L.1 + L.2.2.1 ≤ t ∨ L.2.2.1 ≤ 0 then L.2.1 else L.2.1 * (t - L.1) / L.2.2.1
def dSmear (L : zL) (t : Int64) : Int64 := if L.2.2.2 = 0 then t + dShift L t else t - dShift L t
theorem c_shift {E : pm_E} {Q : pm_Q} {x : zD} {m : List va_E} {t : Int64} (h : Q (some (.long (dShift (xL x) t))) (mkG x m)) : Sm E n_X3_shift 0 (pl_entry 3 [.ref 91, .long t], [], mkG x m, 0, 0) Q := by
  unfold dShift at h
  refine pm_go (aX3_shift E) 100 rfl ?_
  conv => whnf
  refine ⟨fun q => ?_, fun q => ?_⟩
  · rw [if_neg (Int64.not_le.mpr q)] at h
    conv => whnf
    refine ⟨fun q2 => ?_, fun q2 => ?_⟩
    · rw [if_pos (Or.inl q2)] at h
      conv => whnf
      exact ⟨trivial, h⟩
    · conv => whnf
      refine ⟨fun q3 => ?_, fun q3 => ?_⟩
      · rw [if_neg (fun z => z.elim q2 (Int64.not_le.mpr q3))] at h
        conv => whnf
        refine ⟨fun z => ?_, ?_⟩
        · rw [z] at q3
          exact absurd q3 (by decide)
        · conv => whnf
          exact ⟨trivial, h⟩
      · rw [if_pos (Or.inr (Int64.not_lt.mp q3))] at h
        conv => whnf
        exact ⟨trivial, h⟩
  · rw [if_pos (Int64.not_lt.mp q)] at h
    conv => whnf
    exact ⟨trivial, h⟩
theorem c_smear {E : pm_E} {Q : pm_Q} {x : zD} {m : List va_E} {t : Int64} (h : Q (some (.long (dSmear (xL x) t))) (mkG x m)) : Sm E n_X3_smear 0 (pl_entry 3 [.ref 91, .long t], [], mkG x m, 0, 0) Q := by
  unfold dSmear at h
  refine pm_go (aX3_smear E) 100 rfl ?_
  conv => whnf
  refine ⟨fun q => ?_, fun q => ?_⟩
  · rw [if_neg q] at h
    conv => whnf
    refine ⟨trivial, c_shift ?_⟩
    conv => whnf
    exact ⟨trivial, h⟩
  · rw [if_pos q] at h
    conv => whnf
    refine ⟨trivial, c_shift ?_⟩
    conv => whnf
    exact ⟨trivial, h⟩
def dBs (L : zL) (v : Int64) : Nat → Int64 → Int64 → Int64
  | 0, lo, _ => lo
  | n + 1, lo, hi => if hi ≤ lo then lo else if dSmear L (lo + (hi - lo) / 2) < v then dBs L v n (lo + (hi - lo) / 2 + 1) hi else dBs L v n lo (lo + (hi - lo) / 2)
theorem l_bs {E : pm_E} {Q : pm_Q} {x : zD} {m : List va_E} {v : Int64} : ∀ (n i : Nat) (lo hi : Int64) (o : Option Value), i + n = 64 → Q (some (.long (dBs (xL x) v n lo hi))) (mkG x m) → Sm E n_X3_leastSmearedTo 22 ([some (.ref 91), some (.long v), none, some (.long lo), none, some (.long hi), none, some (.int (nI i)), o, none], [], mkG x m, 0, 0) Q := by
  intro n
  induction n with
  | zero =>
    intro i lo hi o hi64 h
    obtain rfl : i = 64 := by omega
    refine pm_lp (aX3_leastSmearedTo E) 100 22 rfl ?_
    conv => whnf
    refine ⟨fun _ => ?_, fun q => absurd (show (64 : Int32) ≤ nI 64 by decide) q⟩
    conv => whnf
    exact ⟨trivial, h⟩
  | succ n ih =>
    intro i lo hi o hi64 h
    rw [dBs] at h
    refine pm_lp (aX3_leastSmearedTo E) 100 22 rfl ?_
    conv => whnf
    refine ⟨fun q => absurd (show nI 64 ≤ nI i from q) (nI_ge (by omega) (by omega)), fun _ => ?_⟩
    conv => whnf
    refine ⟨fun q => ?_, fun q => ?_⟩
    · rw [if_pos q] at h
      conv => whnf
      exact ⟨trivial, h⟩
    · rw [if_neg q] at h
      conv => whnf
      refine ⟨by decide, ?_⟩
      conv => whnf
      refine ⟨trivial, c_smear ?_⟩
      conv => whnf
      refine ⟨fun q2 => ?_, fun q2 => ?_⟩
      · rw [if_pos q2] at h
        conv => whnf
        refine ⟨trivial, ?_⟩
        have := ih (i + 1) _ _ (some (.long (lo + (hi - lo) / 2))) (by omega) h
        rw [nI_succ] at this
        exact this
      · rw [if_neg q2] at h
        conv => whnf
        refine ⟨trivial, ?_⟩
        have := ih (i + 1) _ _ (some (.long (lo + (hi - lo) / 2))) (by omega) h
        rw [nI_succ] at this
        exact this
def dBack (L : zL) (v : Int64) : Int64 := dBs L v 64 (if v - L.2.1 < 0 then 0 else v - L.2.1) (v + L.2.1)
theorem c_least2 {E : pm_E} {Q : pm_Q} {x : zD} {m : List va_E} {v : Int64} (h : Q (some (.long (dBack (xL x) v))) (mkG x m)) : Sm E n_X3_leastSmearedTo 0 (pl_entry 10 [.ref 91, .long v], [], mkG x m, 0, 0) Q := by
  refine pm_go (aX3_leastSmearedTo E) 100 rfl ?_
  conv => whnf
  refine ⟨trivial, ?_⟩
  exact l_bs (x := x) 64 0 _ _ none (by omega) h
theorem c_set {E : pm_E} {Q : pm_Q} {x : zD} {m : List va_E} {a b c d : Int64} (h : Q none (mkG (sL x (a, b, c, d)) m)) : Sm E n_X3_set 0 (pl_entry 9 [.ref 91, .long a, .long b, .long c, .long d], [], mkG x m, 0, 0) Q := by
  refine pm_go (aX3_set E) 100 rfl ?_
  conv => whnf
  exact ⟨trivial, h⟩
/-! ===== the class's calls ===== -/
-- the text
theorem c_put {E : pm_E} {Q : pm_Q} {x : zD} {m : List va_E} {c : Int32} (hi : vp_in (xT x).2 200) (h : Q none (mkG (sT x (upd (xT x).1 (xT x).2.toNatClampNeg (vp_nar .char c), (xT x).2 + 1)) m)) : Sm E n_X7_put 0 (pl_entry 2 [.ref 5, .int c], [], mkG x m, 0, 0) Q := by
  refine pm_go (aX7_put E) 100 rfl ?_
  conv => whnf
  refine ⟨hi, ?_⟩
  conv => whnf
  exact ⟨trivial, h⟩
def dWrite (x : zD) (l : Int32) : Int32 × zD := if l < 32 ∨ 126 < l then (-1, x) else if (xT x).2 < 200 then ((xT x).2 + 1, sT x (upd (xT x).1 (xT x).2.toNatClampNeg (vp_nar .char (l.toUInt32 % 65536).toInt32), (xT x).2 + 1)) else (-3, x)
theorem d_write {E : pm_E} {Q : pm_Q} {x : zD} {m : List va_E} {l : Int32} {s : Nat} (hs : (xT x).2 = nI s) (hs2 : s ≤ 200) (h : Q (some (.int (dWrite x l).1)) (mkG (dWrite x l).2 m)) : Sm E n_X8_write 0 (pl_entry 2 [.ref 4, .int l], [], mkG x m, 0, 0) Q := by
  unfold dWrite at h
  refine pm_go (aX8_write E) 100 rfl ?_
  conv => whnf
  refine ⟨fun q => ?_, fun q => ?_⟩
  · rw [if_pos (Or.inl q)] at h
    conv => whnf
    exact ⟨trivial, h⟩
  · conv => whnf
    refine ⟨fun q2 => ?_, fun q2 => ?_⟩
    · rw [if_neg (fun z => z.elim q (Int32.not_lt.mpr q2))] at h
      conv => whnf
      refine ⟨fun q3 => ?_, fun q3 => ?_⟩
      · rw [if_pos q3] at h
        have hi : vp_in (xT x).2 200 := by
          rw [hs]
          have q3' : nI s < nI 200 := by rw [← hs]; exact q3
          exact vp_in_nI ((nI_ltI (by omega) (by omega)).mp q3') (by decide)
        conv => whnf
        refine ⟨trivial, c_put hi ?_⟩
        conv => whnf
        exact ⟨trivial, h⟩
      · rw [if_neg q3] at h
        conv => whnf
        exact ⟨trivial, h⟩
    · rw [if_pos (Or.inr (Int32.not_le.mp q2))] at h
      conv => whnf
      exact ⟨trivial, h⟩
theorem d_wipe {E : pm_E} {Q : pm_Q} {x : zD} {m : List va_E} (h : Q (some (.int (xT x).2)) (mkG (sT x ((xT x).1, 0)) m)) : Sm E n_X8_wipe 0 (pl_entry 2 [.ref 4], [], mkG x m, 0, 0) Q := by
  refine pm_go (aX8_wipe E) 100 rfl ?_
  conv => whnf
  exact ⟨trivial, h⟩
-- the masters
abbrev okM (i : Int32) : Prop := 0 ≤ i.toInt64 ∧ i.toInt64 < 6
theorem okM_in {i : Int32} (h : okM i) : vp_in i 6 := by
  refine vp_in_iff.mpr ?_
  have h1 := Int64.le_iff_toInt_le.mp h.1
  have h2 := Int64.lt_iff_toInt_lt.mp h.2
  rw [Int32.toInt_toInt64] at h1 h2
  exact ⟨h1, h2⟩
/-- what 'keep' leaves, in any case -/
def dKp (P : zP) (S : zS) : zP := (upS P.1 P.2.1.toNatClampNeg S, nI ((P.2.1.toNatClampNeg + 1) % 6), if 6 < P.2.2 + 1 then 6 else P.2.2 + 1)
def okP (P : zP) : Prop := ∃ i : Nat, i < 6 ∧ P.2.1 = nI i
theorem d_keep {E : pm_E} {Q : pm_Q} {x : zD} {m : List va_E} (hp : okP (xP x)) (h : Q none (mkG (sP x (dKp (xP x) (xS x))) m)) : Sm E n_X5_keep 0 (pl_entry 2 [.ref 20, .ref 9], [], mkG x m, 0, 0) Q := by
  obtain ⟨i, hi, hn⟩ := hp
  have e : (nI i).toNatClampNeg = i := nI_clamp (by omega)
  unfold dKp at h
  rw [hn, e] at h
  exact c_keep (x := x) (f := (xP x).1) (sz := (xP x).2.2) (i := i) (by rw [← hn]) hi h
def dTell (x : zD) (i : Int32) (a b : Int64) : Int32 × zD := if okM i ∧ okSpan a b then (nHd (dHear (xS x).1 i a b (xS x).2.2), sS (sP x (dKp (xP x) (xS x))) (dHear (xS x).1 i a b (xS x).2.2, (xS x).2)) else (-1, x)
theorem d_tell {E : pm_E} {Q : pm_Q} {x : zD} {m : List va_E} {i : Int32} {a b : Int64} (hp : okP (xP x)) (h : Q (some (.int (dTell x i a b).1)) (mkG (dTell x i a b).2 m)) : Sm E n_X8_tell 0 (pl_entry 6 [.ref 4, .int i, .long a, .long b], [], mkG x m, 0, 0) Q := by
  unfold dTell at h
  refine pm_go (aX8_tell E) 100 rfl ?_
  conv => whnf
  refine ⟨trivial, c_isMaster (fun q => ?_) (fun q => ?_)⟩
  · conv => whnf
    refine ⟨fun z => absurd z (by decide), fun _ => ?_⟩
    conv => whnf
    refine ⟨trivial, c_isTold (fun q2 => ?_) (fun q2 => ?_)⟩
    · rw [if_pos ⟨q, q2⟩] at h
      conv => whnf
      refine ⟨fun _ => ?_, fun z => absurd z (by decide)⟩
      conv => whnf
      refine ⟨trivial, d_keep hp ?_⟩
      conv => whnf
      refine ⟨trivial, c_hear (x := sP x (dKp (xP x) (xS x))) (okM_in q) ?_⟩
      conv => whnf
      refine ⟨trivial, c_many (x := sS (sP x (dKp (xP x) (xS x))) (dHear (xS x).1 i a b (xS x).2.2, (xS x).2)) ?_⟩
      conv => whnf
      exact ⟨trivial, h⟩
    · rw [if_neg (fun z => q2 z.2)] at h
      conv => whnf
      refine ⟨fun z => absurd rfl z, fun _ => ?_⟩
      conv => whnf
      exact ⟨trivial, h⟩
  · rw [if_neg (fun z => q z.1)] at h
    conv => whnf
    refine ⟨fun _ => ?_, fun z => absurd rfl z⟩
    conv => whnf
    exact ⟨trivial, h⟩
def sStr (x : zD) (w : Int32) : zD := sS x (((xS x).1.1, (xS x).1.2.1, (xS x).1.2.2.1, (xS x).1.2.2.2.1, w, (xS x).1.2.2.2.2.2), (xS x).2)
def dStrike (x : zD) (i z : Int32) : Int32 × zD := if okM i ∧ 0 ≤ z ∧ z ≤ 1 then (if ((xS x).1.2.2.2.2.1 >>> (i &&& 31)) &&& 1 = z then (-2, x) else (nHd (xS (sStr x ((xS x).1.2.2.2.2.1 ^^^ (1 <<< (i &&& 31))))).1, sStr (sP x (dKp (xP x) (xS x))) ((xS x).1.2.2.2.2.1 ^^^ (1 <<< (i &&& 31))))) else (-1, x)
theorem d_strike {E : pm_E} {Q : pm_Q} {x : zD} {m : List va_E} {i z : Int32} (hp : okP (xP x)) (h : Q (some (.int (dStrike x i z).1)) (mkG (dStrike x i z).2 m)) : Sm E n_X8_strike 0 (pl_entry 3 [.ref 4, .int i, .int z], [], mkG x m, 0, 0) Q := by
  unfold dStrike at h
  refine pm_go (aX8_strike E) 100 rfl ?_
  conv => whnf
  refine ⟨trivial, c_isMaster (fun q => ?_) (fun q => ?_)⟩
  · conv => whnf
    refine ⟨fun z => absurd z (by decide), fun _ => ?_⟩
    conv => whnf
    refine ⟨fun q2 => ?_, fun q2 => ?_⟩
    · rw [if_neg (fun z => Int32.not_lt.mpr z.2.1 q2)] at h
      conv => whnf
      exact ⟨trivial, h⟩
    · conv => whnf
      refine ⟨fun q3 => ?_, fun q3 => ?_⟩
      · rw [if_pos ⟨q, Int32.not_lt.mp q2, q3⟩] at h
        conv => whnf
        refine ⟨fun q4 => ?_, fun q4 => ?_⟩
        · rw [if_neg q4] at h
          conv => whnf
          refine ⟨trivial, d_keep hp ?_⟩
          conv => whnf
          refine ⟨trivial, c_many (x := sStr (sP x (dKp (xP x) (xS x))) ((xS x).1.2.2.2.2.1 ^^^ (1 <<< (i &&& 31)))) ?_⟩
          conv => whnf
          exact ⟨trivial, h⟩
        · rw [if_pos q4] at h
          conv => whnf
          exact ⟨trivial, h⟩
      · rw [if_neg (fun z => q3 z.2.2)] at h
        conv => whnf
        exact ⟨trivial, h⟩
  · rw [if_neg (fun z => q z.1)] at h
    conv => whnf
    refine ⟨fun _ => ?_, fun z => absurd rfl z⟩
    conv => whnf
    exact ⟨trivial, h⟩
def sDr (x : zD) (w : Int32) : zD := sS x (((xS x).1.1, (xS x).1.2.1, (xS x).1.2.2.1, (xS x).1.2.2.2.1, (xS x).1.2.2.2.2.1, w), (xS x).2)
def dDrift (x : zD) (d : Int32) : Int32 × zD := if 0 ≤ d.toInt64 ∧ d.toInt64 ≤ 999999 then (if (xS x).1.2.2.2.2.2 = d then (-2, x) else ((xS x).1.2.2.2.2.2, sDr (sP x (dKp (xP x) (xS x))) d)) else (-1, x)
theorem d_drift {E : pm_E} {Q : pm_Q} {x : zD} {m : List va_E} {d : Int32} (hp : okP (xP x)) (h : Q (some (.int (dDrift x d).1)) (mkG (dDrift x d).2 m)) : Sm E n_X8_drift 0 (pl_entry 3 [.ref 4, .int d], [], mkG x m, 0, 0) Q := by
  unfold dDrift at h
  refine pm_go (aX8_drift E) 100 rfl ?_
  conv => whnf
  refine ⟨trivial, c_isDrift (fun q => ?_) (fun q => ?_)⟩
  · rw [if_pos q] at h
    conv => whnf
    refine ⟨fun _ => ?_, fun z => absurd z (by decide)⟩
    conv => whnf
    refine ⟨fun q2 => ?_, fun q2 => ?_⟩
    · rw [if_neg q2] at h
      conv => whnf
      refine ⟨trivial, d_keep hp ?_⟩
      conv => whnf
      exact ⟨trivial, h⟩
    · rw [if_pos q2] at h
      conv => whnf
      exact ⟨trivial, h⟩
  · rw [if_neg q] at h
    conv => whnf
    refine ⟨fun z => absurd rfl z, fun _ => ?_⟩
    conv => whnf
    exact ⟨trivial, h⟩
def dUndo (x : zD) : Int32 × zD := if (xP x).2.2 = 0 then (-2, x) else ((xP x).2.2 - 1, sS (sP x ((xP x).1, nI (((xP x).2.1.toNatClampNeg + 5) % 6), (xP x).2.2 - 1)) ((xP x).1 (((xP x).2.1.toNatClampNeg + 5) % 6)))
theorem d_undo {E : pm_E} {Q : pm_Q} {x : zD} {m : List va_E} (hp : okP (xP x)) (h : Q (some (.int (dUndo x).1)) (mkG (dUndo x).2 m)) : Sm E n_X8_undo 0 (pl_entry 1 [.ref 4], [], mkG x m, 0, 0) Q := by
  unfold dUndo at h
  refine pm_go (aX8_undo E) 100 rfl ?_
  conv => whnf
  refine ⟨fun q => ?_, fun q => ?_⟩
  · rw [if_neg q] at h
    obtain ⟨i, hi, hn⟩ := hp
    have e : (nI i).toNatClampNeg = i := nI_clamp (by omega)
    rw [hn, e] at h
    conv => whnf
    refine ⟨trivial, c_give (x := x) (f := (xP x).1) (sz := (xP x).2.2) (i := i) (by rw [← hn]) hi ?_⟩
    conv => whnf
    exact ⟨trivial, h⟩
  · rw [if_pos q] at h
    conv => whnf
    exact ⟨trivial, h⟩
