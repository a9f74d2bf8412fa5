/-! the least end of those that hold a tick; the first tick of the most; the row's end -/
def lE (t : Int64) : Int64 → zR → Int64
  | acc, [] => acc
  | acc, q :: l => lE t (if hold t q = true then (if q.2 < acc then q.2 else acc) else acc) l
theorem l_least {E : pm_E} {Q : pm_Q} {x : zD} {m : List va_E} {t : Int64} {l : zR} (hl : AR (xA x) l) : ∀ (n i : Nat) (c : Int64), i + n = l.length → Q (some (.long (lE t c (l.drop i)))) (mkG x m) → Sm E n_X0_leastEndOver 7 ([some (.ref 88), some (.long t), none, some (.long c), none, some (.int (nI i))], [], mkG x m, 0, 0) Q := by
  intro n
  induction n with
  | zero =>
    intro i c hi h
    refine pm_lp (aX0_leastEndOver E) 100 7 rfl ?_
    conv => whnf
    have hlen := hl.2.1
    refine ⟨fun q => ?_, fun q => absurd (show (xA x).2.2.1 ≤ nI i by rw [hl.1]; exact nI_le (by omega) (by omega)) q⟩
    conv => whnf
    refine ⟨trivial, ?_⟩
    rw [List.drop_eq_nil_of_le (by omega)] at h
    exact h
  | succ n ih =>
    intro i c hi h
    have hlt : i < l.length := by omega
    have hlen := hl.2.1
    obtain ⟨e1, e2⟩ := hl.2.2 i _ (List.getElem?_eq_getElem hlt)
    have hcl : (nI i).toNatClampNeg = i := nI_clamp (by omega)
    rw [drop_at hlt, lE] at h
    refine pm_lp (aX0_leastEndOver E) 100 7 rfl ?_
    conv => whnf
    refine ⟨fun q => absurd (show (xA x).2.2.1 ≤ nI i from q) (by rw [hl.1]; exact nI_ge hlt (by omega)), fun _ => ?_⟩
    conv => whnf
    refine ⟨hl.lt hlt, ?_⟩
    conv => whnf
    refine ⟨fun q => ?_, fun q => ?_⟩
    · conv => whnf
      refine ⟨trivial, ?_⟩
      have q' : t < l[i].1 := by rw [← e1, ← hcl]; exact q
      have hh : hold t l[i] = false := by simp [hold, Int64.not_le.mpr q']
      rw [if_neg (by rw [hh]; decide)] at h
      have := ih (i + 1) c (by omega) h
      rw [nI_succ] at this
      exact this
    · conv => whnf
      refine ⟨hl.lt hlt, ?_⟩
      conv => whnf
      have q' : ¬ t < l[i].1 := by rw [← e1, ← hcl]; exact q
      refine ⟨fun q2 => ?_, fun q2 => ?_⟩
      · conv => whnf
        refine ⟨trivial, ?_⟩
        have q2' : l[i].2 < t := by rw [← e2, ← hcl]; exact q2
        have hh : hold t l[i] = false := by simp [hold, Int64.not_le.mpr q2']
        rw [if_neg (by rw [hh]; decide)] at h
        have := ih (i + 1) c (by omega) h
        rw [nI_succ] at this
        exact this
      · conv => whnf
        refine ⟨hl.lt hlt, ?_⟩
        conv => whnf
        refine ⟨trivial, ?_⟩
        have q2' : ¬ l[i].2 < t := by rw [← e2, ← hcl]; exact q2
        have hh : hold t l[i] = true := by simp [hold, Int64.not_lt.mp q', Int64.not_lt.mp q2']
        rw [if_pos hh] at h
        have := ih (i + 1) (if l[i].2 < c then l[i].2 else c) (by omega) h
        have e2' : (xA x).2.1 (nI i).toNatClampNeg = l[i].2 := by rw [hcl]; exact e2
        rw [nI_succ, ← e2'] at this
        exact this
theorem c_least {E : pm_E} {Q : pm_Q} {x : zD} {m : List va_E} {t : Int64} {l : zR} (hl : AR (xA x) l) (h : Q (some (.long (lE t 9223372036854775807 l))) (mkG x m)) : Sm E n_X0_leastEndOver 0 (pl_entry 6 [.ref 88, .long t], [], mkG x m, 0, 0) Q := by
  refine pm_go (aX0_leastEndOver E) 100 rfl ?_
  conv => whnf
  refine ⟨trivial, ?_⟩
  exact l_least (E := E) (Q := Q) (m := m) (t := t) hl l.length 0 9223372036854775807 (by omega) h
def fnd (L : zR) : Nat × Int64 → zR → Nat × Int64
  | a, [] => a
  | a, q :: l => fnd L (if a.1 < cnt L q.1 ∨ (cnt L q.1 = a.1 ∧ q.1 < a.2) then (cnt L q.1, q.1) else a) l
theorem cnt_le (l : zR) (t : Int64) : cnt l t ≤ l.length := List.countP_le_length
def aMB (A : zA) (mo : Nat) (be : Int64) : zA := (A.1, A.2.1, A.2.2.1, nI mo, be)
theorem l_find {E : pm_E} {Q : pm_Q} {x : zD} {m : List va_E} {l : zR} (hl : AR (xA x) l) : ∀ (n i mo : Nat) (be : Int64) (o2 : Option Value), i + n = l.length → mo ≤ 6 → Q none (mkG (sA x (aMB (xA x) (fnd l (mo, be) (l.drop i)).1 (fnd l (mo, be) (l.drop i)).2)) m) → Sm E n_X0_findBegin 12 ([some (.ref 88), some (.int (nI i)), o2], [], mkG (sA x (aMB (xA x) mo be)) m, 0, 0) Q := by
  intro n
  induction n with
  | zero =>
    intro i mo be o2 hi hmo h
    refine pm_lp (aX0_findBegin E) 100 12 rfl ?_
    conv => whnf
    have hlen := hl.2.1
    refine ⟨fun q => ?_, fun q => absurd (show (xA x).2.2.1 ≤ nI i by rw [hl.1]; exact nI_le (by omega) (by omega)) q⟩
    conv => whnf
    refine ⟨trivial, ?_⟩
    rw [List.drop_eq_nil_of_le (by omega)] at h
    exact h
  | succ n ih =>
    intro i mo be o2 hi hmo h
    have hlt : i < l.length := by omega
    have hlen := hl.2.1
    obtain ⟨e1, e2⟩ := hl.2.2 i _ (List.getElem?_eq_getElem hlt)
    have hcl : (nI i).toNatClampNeg = i := nI_clamp (by omega)
    have hl2 : AR (xA (sA x (aMB (xA x) mo be))) l := hl
    have hc6 := cnt_le l l[i].1
    rw [drop_at hlt, fnd] at h
    refine pm_lp (aX0_findBegin E) 100 12 rfl ?_
    conv => whnf
    refine ⟨fun q => absurd (show (xA x).2.2.1 ≤ nI i from q) (by rw [hl.1]; exact nI_ge hlt (by omega)), fun _ => ?_⟩
    conv => whnf
    refine ⟨hl.lt hlt, ?_⟩
    conv => whnf
    refine ⟨trivial, c_hold (l := l) (t := (xA x).1 (nI i).toNatClampNeg) hl2 ?_⟩
    rw [hcl, e1]
    have eb : (xA x).1 (nI i).toNatClampNeg = l[i].1 := by rw [hcl]; exact e1
    conv => whnf
    have take : (mo < cnt l l[i].1 ∨ (cnt l l[i].1 = mo ∧ l[i].1 < be)) → ∀ o2 : Option Value, Sm E n_X0_findBegin 12 ([some (.ref 88), some (.int (nI i + 1)), o2], [], mkG (sA x (aMB (xA x) (cnt l l[i].1) l[i].1)) m, 0, 0) Q := by
      intro hc o2
      rw [if_pos hc] at h
      have := ih (i + 1) (cnt l l[i].1) l[i].1 o2 (by omega) (by omega) h
      rw [nI_succ] at this
      exact this
    have leave : ¬ (mo < cnt l l[i].1 ∨ (cnt l l[i].1 = mo ∧ l[i].1 < be)) → ∀ o2 : Option Value, Sm E n_X0_findBegin 12 ([some (.ref 88), some (.int (nI i + 1)), o2], [], mkG (sA x (aMB (xA x) mo be)) m, 0, 0) Q := by
      intro hc o2
      rw [if_neg hc] at h
      have := ih (i + 1) mo be o2 (by omega) hmo h
      rw [nI_succ] at this
      exact this
    refine ⟨fun q => ?_, fun q => ?_⟩
    · have hc : mo < cnt l l[i].1 := (nI_ltI (by omega) (by omega)).mp q
      conv => whnf
      refine ⟨hl.lt hlt, ?_⟩
      conv => whnf
      refine ⟨trivial, ?_⟩
      have := take (Or.inl hc) (some (.int (nI (cnt l l[i].1))))
      conv at this => rw [show mkG (sA x (aMB (xA x) (cnt l l[i].1) l[i].1)) m = mkG (sA x (aMB (xA x) (cnt l l[i].1) ((xA x).1 (nI i).toNatClampNeg))) m by rw [eb]]
      exact this
    · have hn : ¬ mo < cnt l l[i].1 := fun z => q ((nI_ltI (by omega) (by omega)).mpr z)
      conv => whnf
      refine ⟨fun q2 => ?_, fun q2 => ?_⟩
      · conv => whnf
        refine ⟨trivial, leave (fun z => ?_) _⟩
        rcases z with z | z
        · exact hn z
        · exact q2 (by rw [z.1]; rfl)
      · have he : cnt l l[i].1 = mo := (nI_eq (by omega) (by omega)).mp q2
        conv => whnf
        refine ⟨hl.lt hlt, ?_⟩
        conv => whnf
        refine ⟨fun q3 => ?_, fun q3 => ?_⟩
        · conv => whnf
          refine ⟨trivial, leave (fun z => ?_) _⟩
          rcases z with z | z
          · exact hn z
          · have q3' : be ≤ l[i].1 := by rw [← eb]; exact q3
            exact Int64.not_lt.mpr q3' z.2
        · have q3' : l[i].1 < be := by rw [← eb]; exact Int64.not_le.mp q3
          conv => whnf
          refine ⟨hl.lt hlt, ?_⟩
          conv => whnf
          refine ⟨trivial, ?_⟩
          have := take (Or.inr ⟨he, q3'⟩) (some (.int (nI (cnt l l[i].1))))
          conv at this => rw [show mkG (sA x (aMB (xA x) (cnt l l[i].1) l[i].1)) m = mkG (sA x (aMB (xA x) (cnt l l[i].1) ((xA x).1 (nI i).toNatClampNeg))) m by rw [eb]]
          exact this
theorem c_find {E : pm_E} {Q : pm_Q} {x : zD} {m : List va_E} {l : zR} (hl : AR (xA x) l) (h : Q none (mkG (sA x (aMB (xA x) (fnd l (0, 0) l).1 (fnd l (0, 0) l).2)) m)) : Sm E n_X0_findBegin 0 (pl_entry 3 [.ref 88], [], mkG x m, 0, 0) Q := by
  refine pm_go (aX0_findBegin E) 100 rfl ?_
  conv => whnf
  refine ⟨trivial, ?_⟩
  exact l_find (E := E) (Q := Q) (m := m) hl l.length 0 0 0 none (by omega) (by omega) h

/-- the row's end, gone along from end to end -/
def eor (l : zR) (mo : Nat) : Nat → Int64 → Int64
  | 0, e => e
  | n + 1, e => if cnt l (e + 1) = mo then eor l mo n (lE (e + 1) 9223372036854775807 l) else e
theorem l_row {E : pm_E} {Q : pm_Q} {x : zD} {m : List va_E} {l : zR} {mo : Nat} (hl : AR (xA x) l) (hmo : (xA x).2.2.2.1 = nI mo) (hm6 : mo ≤ 6) : ∀ (n i : Nat) (e : Int64), i + n = l.length → Q (some (.long (eor l mo n e))) (mkG x m) → Sm E n_X0_endOfRow 7 ([some (.ref 88), some (.long e), none, some (.int (nI i))], [], mkG x m, 0, 0) Q := by
  intro n
  induction n with
  | zero =>
    intro i e hi h
    refine pm_lp (aX0_endOfRow E) 100 7 rfl ?_
    conv => whnf
    have hlen := hl.2.1
    refine ⟨fun q => ?_, fun q => absurd (show (xA x).2.2.1 ≤ nI i by rw [hl.1]; exact nI_le (by omega) (by omega)) q⟩
    conv => whnf
    exact ⟨trivial, h⟩
  | succ n ih =>
    intro i e hi h
    have hlt : i < l.length := by omega
    have hlen := hl.2.1
    have hc6 := cnt_le l (e + 1)
    refine pm_lp (aX0_endOfRow E) 100 7 rfl ?_
    conv => whnf
    refine ⟨fun q => absurd (show (xA x).2.2.1 ≤ nI i from q) (by rw [hl.1]; exact nI_ge hlt (by omega)), fun _ => ?_⟩
    conv => whnf
    refine ⟨trivial, c_hold (l := l) hl ?_⟩
    conv => whnf
    rw [eor] at h
    refine ⟨fun q => ?_, fun q => ?_⟩
    · rw [if_neg (fun z => q (by rw [z]; exact hmo.symm))] at h
      conv => whnf
      exact ⟨trivial, h⟩
    · rw [if_pos ((nI_eq (by omega) (by omega)).mp (q.trans hmo))] at h
      conv => whnf
      refine ⟨trivial, c_least (l := l) hl ?_⟩
      conv => whnf
      refine ⟨trivial, ?_⟩
      have := ih (i + 1) _ (by omega) h
      rw [nI_succ] at this
      exact this
theorem c_row {E : pm_E} {Q : pm_Q} {x : zD} {m : List va_E} {l : zR} {mo : Nat} (hl : AR (xA x) l) (hmo : (xA x).2.2.2.1 = nI mo) (hm6 : mo ≤ 6) (h : Q (some (.long (eor l mo l.length (xA x).2.2.2.2))) (mkG x m)) : Sm E n_X0_endOfRow 0 (pl_entry 4 [.ref 88], [], mkG x m, 0, 0) Q := by
  refine pm_go (aX0_endOfRow E) 100 rfl ?_
  conv => whnf
  refine ⟨trivial, ?_⟩
  exact l_row (E := E) (Q := Q) (m := m) hl hmo hm6 l.length 0 _ (by omega) h
/-! all that are heard -/
def spL (M : zM) (t : Int32) : Nat → zR
  | 0 => []
  | i + 1 => if hB M (nI i) then spL M t i ++ [(fB M (nI i) t, fE M (nI i) t)] else spL M t i
theorem spL_len (M : zM) (t : Int32) : ∀ i, (spL M t i).length ≤ i
  | 0 => Nat.le_refl 0
  | i + 1 => by
    have := spL_len M t i
    unfold spL
    split
    · rw [List.length_append]; simp; omega
    · omega
/-- what the agreement holds behind 'look' -/
def AF (A : zA) (l : zR) : Prop := AR A l ∧ A.2.2.2.1 = nI (fnd l (0, 0) l).1 ∧ A.2.2.2.2 = (fnd l (0, 0) l).2
theorem AR.push {A : zA} {l : zR} (h : AR A l) (h5 : l.length ≤ 5) (b e : Int64) : AR (vp_updL A.1 A.2.2.1.toNatClampNeg b, vp_updL A.2.1 A.2.2.1.toNatClampNeg e, A.2.2.1 + 1, A.2.2.2.1, A.2.2.2.2) (l ++ [(b, e)]) := by
  obtain ⟨h1, h2, h3⟩ := h
  have hc : A.2.2.1.toNatClampNeg = l.length := by rw [h1]; exact nI_clamp (by omega)
  refine ⟨?_, ?_, ?_⟩
  · show A.2.2.1 + 1 = _
    rw [h1, List.length_append]
    exact (nI_succ _).symm
  · rw [List.length_append]; simp; omega
  · intro j q hq
    show vp_updL A.1 _ b j = _ ∧ vp_updL A.2.1 _ e j = _
    rw [hc]
    unfold vp_updL
    by_cases hj : j = l.length
    · subst hj
      rw [List.getElem?_append_right (Nat.le_refl _)] at hq
      simp at hq
      subst hq
      simp
    · rw [if_neg hj, if_neg hj]
      refine h3 j q ?_
      by_cases hlt : j < l.length
      · rwa [List.getElem?_append_left hlt] at hq
      · rw [List.getElem?_eq_none (by rw [List.length_append]; simp; omega)] at hq
        cases hq
theorem l_look {E : pm_E} {Q : pm_Q} {x : zD} {m : List va_E} {t : Int32} : ∀ (n i : Nat) (A : zA), i + n = 6 → AR A (spL (xS x).1 t i) → (∀ A', AF A' (spL (xS x).1 t 6) → Q none (mkG (sA x A') m)) → Sm E n_X0_look 7 ([some (.ref 88), some (.ref 10), some (.int t), some (.int (nI i))], [], mkG (sA x A) m, 0, 0) Q := by
  intro n
  induction n with
  | zero =>
    intro i A hi hA h
    obtain rfl : i = 6 := by omega
    refine pm_lp (aX0_look E) 100 7 rfl ?_
    conv => whnf
    refine ⟨fun q => ?_, fun q => absurd (show (6 : Int32) ≤ nI 6 by decide) q⟩
    conv => whnf
    refine ⟨trivial, c_find (x := sA x A) hA ?_⟩
    conv => whnf
    exact ⟨trivial, h _ ⟨hA, rfl, rfl⟩⟩
  | succ n ih =>
    intro i A hi hA h
    have h6 : vp_in (nI i) 6 := vp_in_nI (by omega) (by decide)
    have hlen := spL_len (xS x).1 t i
    have hin : vp_in A.2.2.1 6 := by rw [hA.1]; exact vp_in_nI (by omega) (by decide)
    refine pm_lp (aX0_look E) 100 7 rfl ?_
    conv => whnf
    refine ⟨fun q => absurd (show nI 6 ≤ nI i from q) (nI_ge (by omega) (by omega)), fun _ => ?_⟩
    conv => whnf
    refine ⟨trivial, c_isHeard (x := sA x A) (fun hb => ?_) (fun hb => ?_)⟩
    · have hb : hB (xS x).1 (nI i) := hb
      conv => whnf
      refine ⟨fun q => absurd q (by decide), fun _ => ?_⟩
      conv => whnf
      refine ⟨trivial, c_begin (x := sA x A) h6 ?_⟩
      conv => whnf
      refine ⟨hin, ?_⟩
      conv => whnf
      refine ⟨trivial, c_end (x := sA x (vp_updL A.1 A.2.2.1.toNatClampNeg (fB (xS x).1 (nI i) t), A.2)) h6 ?_⟩
      conv => whnf
      refine ⟨hin, ?_⟩
      conv => whnf
      refine ⟨trivial, ?_⟩
      have hp := hA.push (by omega) (fB (xS x).1 (nI i) t) (fE (xS x).1 (nI i) t)
      have := ih (i + 1) _ (by omega) (by rw [spL, if_pos hb]; exact hp) h
      rw [nI_succ] at this
      exact this
    · have hb : ¬ hB (xS x).1 (nI i) := hb
      conv => whnf
      refine ⟨fun _ => ?_, fun q => absurd rfl q⟩
      conv => whnf
      refine ⟨trivial, ?_⟩
      have := ih (i + 1) A (by omega) (by rw [spL, if_neg hb]; exact hA) h
      rw [nI_succ] at this
      exact this
theorem c_look {E : pm_E} {Q : pm_Q} {x : zD} {m : List va_E} {t : Int32} (h : ∀ A', AF A' (spL (xS x).1 t 6) → Q none (mkG (sA x A') m)) : Sm E n_X0_look 0 (pl_entry 4 [.ref 88, .ref 10, .int t], [], mkG x m, 0, 0) Q := by
  refine pm_go (aX0_look E) 100 rfl ?_
  conv => whnf
  refine ⟨trivial, ?_⟩
  exact l_look (E := E) (Q := Q) (x := x) (m := m) (t := t) 6 0 ((xA x).1, (xA x).2.1, 0, (xA x).2.2.2.1, (xA x).2.2.2.2) (by omega) ⟨rfl, Nat.zero_le _, fun j q hq => by simp [spL] at hq⟩ h
theorem c_good {E : pm_E} {Q : pm_Q} {x : zD} {m : List va_E} (h1 : (xA x).2.2.1 < 2 * (xA x).2.2.2.1 → Q (some (.int 1)) (mkG x m)) (h0 : ¬ (xA x).2.2.1 < 2 * (xA x).2.2.2.1 → Q (some (.int 0)) (mkG x m)) : Sm E n_X0_isGood 0 (pl_entry 1 [.ref 88], [], mkG x m, 0, 0) Q := by
  refine pm_go (aX0_isGood E) 100 rfl ?_
  conv => whnf
  refine ⟨fun q => ?_, fun q => ?_⟩
  · conv => whnf
    exact ⟨rfl, h0 (Int32.not_lt.mpr q)⟩
  · conv => whnf
    exact ⟨rfl, h1 (Int32.not_le.mp q)⟩
