/-! ===== what time it is ===== -/
-- the spans heard at a state's own local time; the most and the first tick; the row's end
abbrev lAt (S : zS) (t : Int32) : zR := spL S.1 t 6
abbrev lS (S : zS) : zR := lAt S S.2.2
abbrev mst (l : zR) : Nat := (fnd l (0, 0) l).1
abbrev beg (l : zR) : Int64 := (fnd l (0, 0) l).2
abbrev rend (l : zR) : Int64 := eor l (mst l) l.length (beg l)
abbrev okG (l : zR) : Prop := nI l.length < 2 * nI (mst l)
theorem fnd_le (L : zR) (h6 : L.length ≤ 6) : ∀ (l : zR) (a : Nat × Int64), a.1 ≤ 6 → (fnd L a l).1 ≤ 6
  | [], a, h => h
  | q :: l, a, h => by
    unfold fnd
    refine fnd_le L h6 l _ ?_
    split
    · have := cnt_le L q.1
      show cnt L q.1 ≤ 6
      omega
    · exact h
theorem mst_le {l : zR} (h : l.length ≤ 6) : mst l ≤ 6 := fnd_le l h l (0, 0) (by omega)
theorem d_look {E : pm_E} {Q : pm_Q} {x : zD} {m : List va_E} (h : ∀ A', AF A' (lS (xS x)) → Q none (mkG (sA x A') m)) : Sm E n_X8_lookAround 0 (pl_entry 1 [.ref 4], [], mkG x m, 0, 0) Q := by
  refine pm_go (aX8_lookAround E) 100 rfl ?_
  conv => whnf
  refine ⟨trivial, c_look (x := x) (fun A' hA => ?_)⟩
  conv => whnf
  exact ⟨trivial, h A' hA⟩
theorem AF.good {A : zA} {l : zR} (h : AF A l) : (A.2.2.1 < 2 * A.2.2.2.1) = okG l := by rw [h.1.1, h.2.1]
theorem AF.beg {A : zA} {l : zR} (h : AF A l) : A.2.2.2.2 = beg l := h.2.2
theorem c_goodF {E : pm_E} {Q : pm_Q} {x : zD} {m : List va_E} {l : zR} (hA : AF (xA x) l) (h1 : okG l → Q (some (.int 1)) (mkG x m)) (h0 : ¬ okG l → Q (some (.int 0)) (mkG x m)) : Sm E n_X0_isGood 0 (pl_entry 1 [.ref 88], [], mkG x m, 0, 0) Q :=
  c_good (fun q => h1 (by rw [← hA.good]; exact q)) (fun q => h0 (by rw [← hA.good]; exact q))
theorem c_rowF {E : pm_E} {Q : pm_Q} {x : zD} {m : List va_E} {l : zR} (hA : AF (xA x) l) (h : Q (some (.long (rend l))) (mkG x m)) : Sm E n_X0_endOfRow 0 (pl_entry 4 [.ref 88], [], mkG x m, 0, 0) Q :=
  c_row hA.1 hA.2.1 (mst_le hA.1.2.1) (by rw [hA.2.2]; exact h)
def dSpan (x : zD) (i w : Int32) : Int64 := if okM i ∧ 0 ≤ w ∧ w ≤ 1 then (if ((xS x).1.2.2.2.1 >>> (i &&& 31)) &&& 1 = 1 then (if w = 0 then fB (xS x).1 i (xS x).2.2 else fE (xS x).1 i (xS x).2.2) else -2000000000001) else -2000000000000
theorem d_span {E : pm_E} {Q : pm_Q} {x : zD} {m : List va_E} {i w : Int32} (h : Q (some (.long (dSpan x i w))) (mkG x m)) : Sm E n_X8_span 0 (pl_entry 3 [.ref 4, .int i, .int w], [], mkG x m, 0, 0) Q := by
  unfold dSpan at h
  refine pm_go (aX8_span E) 100 rfl ?_
  conv => whnf
  refine ⟨trivial, c_isMaster (fun q => ?_) (fun q => ?_)⟩
  · conv => whnf
    refine ⟨fun z => absurd z (by decide), fun _ => ?_⟩
    conv => whnf
    refine ⟨fun q2 => ?_, fun q2 => ?_⟩
    · rw [if_neg (fun z => Int32.not_lt.mpr z.2.1 q2)] at h
      conv => whnf
      exact ⟨trivial, h⟩
    · conv => whnf
      refine ⟨fun q3 => ?_, fun q3 => ?_⟩
      · rw [if_pos ⟨q, Int32.not_lt.mp q2, q3⟩] at h
        conv => whnf
        refine ⟨trivial, c_hasTold (fun q4 => ?_) (fun q4 => ?_)⟩
        · rw [if_pos q4] at h
          conv => whnf
          refine ⟨fun _ => ?_, fun z => absurd z (by decide)⟩
          conv => whnf
          refine ⟨fun q5 => ?_, fun q5 => ?_⟩
          · rw [if_neg q5] at h
            conv => whnf
            refine ⟨trivial, c_end (okM_in q) ?_⟩
            conv => whnf
            exact ⟨trivial, h⟩
          · rw [if_pos q5] at h
            conv => whnf
            refine ⟨trivial, c_begin (okM_in q) ?_⟩
            conv => whnf
            exact ⟨trivial, h⟩
        · rw [if_neg q4] at h
          conv => whnf
          refine ⟨fun z => absurd rfl z, fun _ => ?_⟩
          conv => whnf
          exact ⟨trivial, h⟩
      · rw [if_neg (fun z => q3 z.2.2)] at h
        conv => whnf
        exact ⟨trivial, h⟩
  · rw [if_neg (fun z => q z.1)] at h
    conv => whnf
    refine ⟨fun _ => ?_, fun z => absurd rfl z⟩
    conv => whnf
    exact ⟨trivial, h⟩
def dAgreed (S : zS) (w : Int32) : Int64 := if w < 0 ∨ 1 < w then -2000000000000 else if nI (lS S).length = 0 then -2000000000001 else if w = 0 then beg (lS S) else rend (lS S)
theorem d_agreed {E : pm_E} {Q : pm_Q} {x : zD} {m : List va_E} {w : Int32} (h : ∀ A', Q (some (.long (dAgreed (xS x) w))) (mkG (sA x A') m)) : Sm E n_X8_agreed 0 (pl_entry 2 [.ref 4, .int w], [], mkG x m, 0, 0) Q := by
  unfold dAgreed at h
  refine pm_go (aX8_agreed E) 100 rfl ?_
  conv => whnf
  refine ⟨fun q => ?_, fun q => ?_⟩
  · rw [if_pos (Or.inl q)] at h
    conv => whnf
    exact ⟨trivial, h (xA x)⟩
  · conv => whnf
    refine ⟨fun q2 => ?_, fun q2 => ?_⟩
    · rw [if_neg (fun z => z.elim q (Int32.not_lt.mpr q2))] at h
      conv => whnf
      refine ⟨trivial, d_look (x := x) (fun A' hA => ?_)⟩
      have h := h A'
      conv => whnf
      refine ⟨fun q3 => ?_, fun q3 => ?_⟩
      · have q3' : ¬ nI (lS (xS x)).length = 0 := by rw [← hA.1.1]; exact q3
        rw [if_neg q3'] at h
        conv => whnf
        refine ⟨fun q4 => ?_, fun q4 => ?_⟩
        · rw [if_neg q4] at h
          conv => whnf
          refine ⟨trivial, c_rowF (x := sA x A') hA ?_⟩
          conv => whnf
          exact ⟨trivial, h⟩
        · rw [if_pos q4] at h
          conv => whnf
          refine ⟨trivial, ?_⟩
          rw [← hA.beg] at h
          exact h
      · have q3' : nI (lS (xS x)).length = 0 := by rw [← hA.1.1]; exact q3
        rw [if_pos q3'] at h
        conv => whnf
        exact ⟨trivial, h⟩
    · rw [if_pos (Or.inr (Int32.not_le.mp q2))] at h
      conv => whnf
      exact ⟨trivial, h (xA x)⟩
def dGood (S : zS) : Int32 := if okG (lS S) then 1 else 0
theorem d_good {E : pm_E} {Q : pm_Q} {x : zD} {m : List va_E} (h : ∀ A', Q (some (.int (dGood (xS x)))) (mkG (sA x A') m)) : Sm E n_X8_good 0 (pl_entry 1 [.ref 4], [], mkG x m, 0, 0) Q := by
  unfold dGood at h
  refine pm_go (aX8_good E) 100 rfl ?_
  conv => whnf
  refine ⟨trivial, d_look (x := x) (fun A' hA => ?_)⟩
  have h := h A'
  conv => whnf
  refine ⟨trivial, c_goodF (x := sA x A') hA (fun q => ?_) (fun q => ?_)⟩
  · rw [if_pos q] at h
    conv => whnf
    refine ⟨fun z => absurd z (by decide), fun _ => ?_⟩
    conv => whnf
    exact ⟨trivial, h⟩
  · rw [if_neg q] at h
    conv => whnf
    refine ⟨fun _ => ?_, fun z => absurd rfl z⟩
    conv => whnf
    exact ⟨trivial, h⟩
abbrev okT (t : Int64) : Prop := 0 ≤ t ∧ t ≤ 2000000000000
def dIn (S : zS) (t : Int64) : Int32 := if okT t then nI (cnt (lS S) t) else -1
theorem d_in {E : pm_E} {Q : pm_Q} {x : zD} {m : List va_E} {t : Int64} (h : ∀ A', Q (some (.int (dIn (xS x) t))) (mkG (sA x A') m)) : Sm E n_X8_in 0 (pl_entry 3 [.ref 4, .long t], [], mkG x m, 0, 0) Q := by
  unfold dIn at h
  refine pm_go (aX8_in E) 100 rfl ?_
  conv => whnf
  refine ⟨trivial, c_isAsked (fun q => ?_) (fun q => ?_)⟩
  · rw [if_pos q] at h
    conv => whnf
    refine ⟨fun _ => ?_, fun z => absurd z (by decide)⟩
    conv => whnf
    refine ⟨trivial, d_look (x := x) (fun A' hA => ?_)⟩
    conv => whnf
    refine ⟨trivial, c_hold (x := sA x A') hA.1 ?_⟩
    conv => whnf
    exact ⟨trivial, h A'⟩
  · rw [if_neg q] at h
    conv => whnf
    refine ⟨fun z => absurd rfl z, fun _ => ?_⟩
    conv => whnf
    exact ⟨trivial, h (xA x)⟩
/-- the liars among the first i masters, as bits -/
def dLi (M : zM) (t : Int32) (b e : Int64) : Nat → Int32
  | 0 => 0
  | i + 1 => if hB M (nI i) ∧ ¬ (fB M (nI i) t ≤ e ∧ b ≤ fE M (nI i) t) then dLi M t b e i ||| (1 <<< (nI i &&& 31)) else dLi M t b e i
abbrev dLiars (S : zS) : Int32 := dLi S.1 S.2.2 (beg (lS S)) (rend (lS S)) 6
theorem l_liars {E : pm_E} {Q : pm_Q} {x : zD} {m : List va_E} {b e : Int64} (h : Q (some (.int (dLi (xS x).1 (xS x).2.2 b e 6))) (mkG x m)) : ∀ (n i : Nat), i + n = 6 → Sm E n_X8_liars 26 ([some (.ref 4), some (.long b), none, some (.long e), none, some (.int (dLi (xS x).1 (xS x).2.2 b e i)), some (.int (nI i))], [], mkG x m, 0, 0) Q := by
  intro n
  induction n with
  | zero =>
    intro i hi
    obtain rfl : i = 6 := by omega
    refine pm_lp (aX8_liars E) 100 26 rfl ?_
    conv => whnf
    refine ⟨fun _ => ?_, fun q => absurd (show (6 : Int32) ≤ nI 6 by decide) q⟩
    conv => whnf
    exact ⟨trivial, h⟩
  | succ n ih =>
    intro i hi
    have h6 : vp_in (nI i) 6 := vp_in_nI (by omega) (by decide)
    have nxt := ih (i + 1) (by omega)
    rw [nI_succ, dLi] at nxt
    refine pm_lp (aX8_liars E) 100 26 rfl ?_
    conv => whnf
    refine ⟨fun q => absurd (show nI 6 ≤ nI i from q) (nI_ge (by omega) (by omega)), fun _ => ?_⟩
    conv => whnf
    refine ⟨trivial, c_isHeard (x := x) (fun q => ?_) (fun q => ?_)⟩
    · conv => whnf
      refine ⟨fun z => absurd z (by decide), fun _ => ?_⟩
      conv => whnf
      refine ⟨trivial, c_meets (x := x) h6 (fun q2 => ?_) (fun q2 => ?_)⟩
      · rw [if_neg (fun z => z.2 q2)] at nxt
        conv => whnf
        refine ⟨fun _ => ?_, fun z => absurd z (by decide)⟩
        conv => whnf
        exact ⟨trivial, nxt⟩
      · rw [if_pos ⟨q, q2⟩] at nxt
        conv => whnf
        refine ⟨fun z => absurd rfl z, fun _ => ?_⟩
        conv => whnf
        exact ⟨trivial, nxt⟩
    · rw [if_neg (fun z => q z.1)] at nxt
      conv => whnf
      refine ⟨fun _ => ?_, fun z => absurd rfl z⟩
      conv => whnf
      exact ⟨trivial, nxt⟩
theorem d_liars {E : pm_E} {Q : pm_Q} {x : zD} {m : List va_E} (h : ∀ A', Q (some (.int (dLiars (xS x)))) (mkG (sA x A') m)) : Sm E n_X8_liars 0 (pl_entry 7 [.ref 4], [], mkG x m, 0, 0) Q := by
  refine pm_go (aX8_liars E) 100 rfl ?_
  conv => whnf
  refine ⟨trivial, d_look (x := x) (fun A' hA => ?_)⟩
  conv => whnf
  refine ⟨trivial, c_rowF (x := sA x A') hA ?_⟩
  conv => whnf
  refine ⟨trivial, ?_⟩
  have := l_liars (E := E) (Q := Q) (x := sA x A') (m := m) (b := beg (lS (xS x))) (e := rend (lS (xS x))) (h A') 6 0 (by omega)
  rw [← hA.beg] at this
  exact this
def dSL (x : zD) : Int32 × zD := if dLiars (xS x) = 0 then (-2, x) else (bc (dLiars (xS x)), sStr (sP x (dKp (xP x) (xS x))) ((xS x).1.2.2.2.2.1 ||| dLiars (xS x)))
theorem d_strikeLiars {E : pm_E} {Q : pm_Q} {x : zD} {m : List va_E} (hp : okP (xP x)) (h : ∀ A', Q (some (.int (dSL x).1)) (mkG (sA (dSL x).2 A') m)) : Sm E n_X8_strikeLiars 0 (pl_entry 2 [.ref 4], [], mkG x m, 0, 0) Q := by
  unfold dSL at h
  refine pm_go (aX8_strikeLiars E) 100 rfl ?_
  conv => whnf
  refine ⟨trivial, d_liars (x := x) (fun A' => ?_)⟩
  have h := h A'
  conv => whnf
  refine ⟨fun q => ?_, fun q => ?_⟩
  · rw [if_neg q] at h
    conv => whnf
    refine ⟨trivial, d_keep (x := sA x A') hp ?_⟩
    conv => whnf
    refine ⟨trivial, c_bc ?_⟩
    conv => whnf
    exact ⟨trivial, h⟩
  · rw [if_pos q] at h
    conv => whnf
    exact ⟨trivial, h⟩
/-! ===== local goes on ===== -/
def okC (C : zC) : Prop := ∃ d s : Nat, d ≤ s ∧ s ≤ 16 ∧ cSz C = nI s ∧ cDn C = nI d
def dFinish (S : zS) : zC := if cSz S.2.1 - cDn S.2.1 = 0 then S.2.1 else if okG (lS S) then dFin (beg (lS S)) S.2.2 ((cSz S.2.1).toNatClampNeg - (cDn S.2.1).toNatClampNeg) S.2.1 else S.2.1
theorem d_finish {E : pm_E} {Q : pm_Q} {x : zD} {m : List va_E} (hc : okC (xC x)) (h : ∀ A', Q none (mkG (sA (sC x (dFinish (xS x))) A') m)) : Sm E n_X8_finishCommits 0 (pl_entry 1 [.ref 4], [], mkG x m, 0, 0) Q := by
  unfold dFinish at h
  refine pm_go (aX8_finishCommits E) 100 rfl ?_
  conv => whnf
  refine ⟨trivial, c_open (x := x) ?_⟩
  conv => whnf
  refine ⟨fun q => ?_, fun q => ?_⟩
  · rw [if_neg q] at h
    conv => whnf
    refine ⟨trivial, d_look (x := x) (fun A' hA => ?_)⟩
    have h := h A'
    conv => whnf
    refine ⟨trivial, c_goodF (x := sA x A') hA (fun q2 => ?_) (fun q2 => ?_)⟩
    · rw [if_pos q2] at h
      conv => whnf
      refine ⟨fun z => absurd z (by decide), fun _ => ?_⟩
      conv => whnf
      obtain ⟨d, s, hds, hs, e1, e2⟩ := hc
      refine ⟨trivial, c_fin (x := sA x A') hds hs e1 e2 ?_⟩
      conv => whnf
      refine ⟨trivial, ?_⟩
      rw [show (cSz (xS x).2.1).toNatClampNeg = s by rw [e1]; exact nI_clamp (by omega), show (cDn (xS x).2.1).toNatClampNeg = d by rw [e2]; exact nI_clamp (by omega), ← hA.beg] at h
      exact h
    · rw [if_neg q2] at h
      conv => whnf
      refine ⟨fun _ => ?_, fun z => absurd rfl z⟩
      conv => whnf
      exact ⟨trivial, h⟩
  · rw [if_pos q] at h
    conv => whnf
    exact ⟨trivial, h (xA x)⟩
def dTick (S : zS) : zS := (S.1, dFinish (S.1, S.2.1, S.2.2 + 1), S.2.2 + 1)
def dTicks : Nat → zS → zS
  | 0, S => S
  | n + 1, S => dTicks n (dTick S)
theorem dFin_ok (b : Int64) (t : Int32) : ∀ (n d s : Nat) (C : zC), d + n ≤ s → s ≤ 16 → cSz C = nI s → cDn C = nI d → okC (dFin b t n C)
  | 0, d, s, C, h1, h2, h3, h4 => ⟨d, s, by omega, h2, h3, h4⟩
  | n + 1, d, s, C, h1, h2, h3, h4 => by
    unfold dFin
    split
    · exact dFin_ok b t n (d + 1) s _ (by omega) h2 h3 (by show cDn C + 1 = _; rw [h4, nI_succ])
    · exact ⟨d, s, by omega, h2, h3, h4⟩
theorem dFinish_ok {S : zS} (h : okC S.2.1) : okC (dFinish S) := by
  unfold dFinish
  split
  · exact h
  split
  · obtain ⟨d, s, h1, h2, h3, h4⟩ := h
    rw [show (cSz S.2.1).toNatClampNeg = s by rw [h3]; exact nI_clamp (by omega), show (cDn S.2.1).toNatClampNeg = d by rw [h4]; exact nI_clamp (by omega)]
    exact dFin_ok _ _ (s - d) d s _ (by omega) h2 h3 h4
  · exact h
theorem l_go {E : pm_E} {Q : pm_Q} {x : zD} {m : List va_E} {N : Nat} {d0 : Int32} (hN : N ≤ 5000) : ∀ (n i : Nat) (S : zS) (A : zA), i + n = N → okC S.2.1 → (∀ A', Q (some (.int (cDn (dTicks n S).2.1 - d0))) (mkG (sA (sS x (dTicks n S)) A') m)) → Sm E n_X8_go 38 ([some (.ref 4), some (.int (nI N)), some (.int d0), some (.int (nI i))], [], mkG (sA (sS x S) A) m, 0, 0) Q := by
  intro n
  induction n with
  | zero =>
    intro i S A hi hc h
    obtain rfl : i = N := by omega
    refine pm_lp (aX8_go E) 100 38 rfl ?_
    conv => whnf
    refine ⟨fun _ => ?_, fun q => absurd (nI_le (Nat.le_refl i) (by omega)) q⟩
    conv => whnf
    exact ⟨trivial, h A⟩
  | succ n ih =>
    intro i S A hi hc h
    refine pm_lp (aX8_go E) 100 38 rfl ?_
    conv => whnf
    refine ⟨fun q => absurd q (nI_ge (by omega) (by omega)), fun _ => ?_⟩
    conv => whnf
    refine ⟨trivial, d_finish (x := sA (sS x (S.1, S.2.1, S.2.2 + 1)) A) hc (fun A' => ?_)⟩
    conv => whnf
    refine ⟨trivial, ?_⟩
    have := ih (i + 1) (dTick S) A' (by omega) (dFinish_ok (S := (S.1, S.2.1, S.2.2 + 1)) hc) h
    rw [nI_succ] at this
    exact this
def dGo (x : zD) (n : Int32) : Int32 × zD := if n < 1 ∨ 5000 < n then (-1, x) else (cDn (dTicks n.toNatClampNeg (xS x)).2.1 - cDn (xC x), sS (sP x (dKp (xP x) (xS x))) (dTicks n.toNatClampNeg (xS x)))
theorem d_go {E : pm_E} {Q : pm_Q} {x : zD} {m : List va_E} {n : Int32} (hp : okP (xP x)) (hc : okC (xC x)) (h : ∀ A', Q (some (.int (dGo x n).1)) (mkG (sA (dGo x n).2 A') m)) : Sm E n_X8_go 0 (pl_entry 4 [.ref 4, .int n], [], mkG x m, 0, 0) Q := by
  unfold dGo at h
  refine pm_go (aX8_go E) 100 rfl ?_
  conv => whnf
  refine ⟨fun q => ?_, fun q => ?_⟩
  · rw [if_pos (Or.inl q)] at h
    conv => whnf
    exact ⟨trivial, h (xA x)⟩
  · conv => whnf
    refine ⟨fun q2 => ?_, fun q2 => ?_⟩
    · rw [if_neg (fun z => z.elim q (Int32.not_lt.mpr q2))] at h
      have q0 : ¬ n < 0 := fun z => q (Int32.lt_trans z (by decide))
      obtain ⟨N, hN, rfl⟩ := nI_of q0
      have hN2 : N ≤ 5000 := (nI_leI hN (by decide)).mp q2
      rw [nI_clamp hN] at h
      conv => whnf
      refine ⟨trivial, d_keep (x := x) hp ?_⟩
      conv => whnf
      refine ⟨trivial, ?_⟩
      exact l_go (E := E) (Q := Q) (x := sP x (dKp (xP x) (xS x))) (m := m) (d0 := cDn (xC x)) hN2 N 0 (xS x) (xA x) (by omega) hc h
    · rw [if_pos (Or.inr (Int32.not_le.mp q2))] at h
      conv => whnf
      exact ⟨trivial, h (xA x)⟩
