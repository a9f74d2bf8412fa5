-- places in the class's cells
abbrev xT (x : zD) : zT := x.1
abbrev xI (x : zD) : zI := x.2.1
abbrev xS (x : zD) : zS := x.2.2.1
abbrev xP (x : zD) : zP := x.2.2.2.1
abbrev xA (x : zD) : zA := x.2.2.2.2.1
abbrev xL (x : zD) : zL := x.2.2.2.2.2
def sT (x : zD) (t : zT) : zD := (t, x.2)
def sI (x : zD) (t : zI) : zD := (x.1, t, x.2.2)
def sS (x : zD) (t : zS) : zD := (x.1, x.2.1, t, x.2.2.2)
def sP (x : zD) (t : zP) : zD := (x.1, x.2.1, x.2.2.1, t, x.2.2.2.2)
def sA (x : zD) (t : zA) : zD := (x.1, x.2.1, x.2.2.1, x.2.2.2.1, t, x.2.2.2.2.2)
def sL (x : zD) (t : zL) : zD := (x.1, x.2.1, x.2.2.1, x.2.2.2.1, x.2.2.2.2.1, t)
/-- a master's span at a local time -/
def fG (M : zM) (i : Int32) (t : Int32) : Int64 := t.toInt64 - (M.2.2.1 i.toNatClampNeg).toInt64
def fW (M : zM) (g : Int64) : Int64 := (g * M.2.2.2.2.2.toInt64 + 1000000 - 1) / 1000000
def fB (M : zM) (i t : Int32) : Int64 := M.1 i.toNatClampNeg + fG M i t - fW M (fG M i t)
def fE (M : zM) (i t : Int32) : Int64 := M.2.1 i.toNatClampNeg + fG M i t + fW M (fG M i t)
abbrev hB (M : zM) (i : Int32) : Prop := ((M.2.2.2.1 &&& (M.2.2.2.2.1 ^^^ (-1))) >>> (i &&& 31)) &&& 1 = 1
theorem c_wid {E : pm_E} {Q : pm_Q} {x : zD} {m : List va_E} {g : Int64} (h : Q (some (.long (fW (xS x).1 g))) (mkG x m)) : Sm E n_X4_widening 0 (pl_entry 3 [.ref 10, .long g], [], mkG x m, 0, 0) Q := by
  refine pm_go (aX4_widening E) 100 rfl ?_
  conv => whnf
  refine ⟨by decide, ?_⟩
  conv => whnf
  exact ⟨trivial, h⟩
theorem c_begin {E : pm_E} {Q : pm_Q} {x : zD} {m : List va_E} {i t : Int32} (hi : vp_in i 6) (h : Q (some (.long (fB (xS x).1 i t))) (mkG x m)) : Sm E n_X4_beginOf 0 (pl_entry 5 [.ref 10, .int i, .int t], [], mkG x m, 0, 0) Q := by
  refine pm_go (aX4_beginOf E) 100 rfl ?_
  conv => whnf
  refine ⟨hi, ?_⟩
  conv => whnf
  refine ⟨hi, ?_⟩
  conv => whnf
  refine ⟨trivial, ?_⟩
  refine c_wid ?_
  conv => whnf
  exact ⟨trivial, h⟩
theorem c_end {E : pm_E} {Q : pm_Q} {x : zD} {m : List va_E} {i t : Int32} (hi : vp_in i 6) (h : Q (some (.long (fE (xS x).1 i t))) (mkG x m)) : Sm E n_X4_endOf 0 (pl_entry 5 [.ref 10, .int i, .int t], [], mkG x m, 0, 0) Q := by
  refine pm_go (aX4_endOf E) 100 rfl ?_
  conv => whnf
  refine ⟨hi, ?_⟩
  conv => whnf
  refine ⟨hi, ?_⟩
  conv => whnf
  refine ⟨trivial, ?_⟩
  refine c_wid ?_
  conv => whnf
  exact ⟨trivial, h⟩
theorem c_isHeard {E : pm_E} {Q : pm_Q} {x : zD} {m : List va_E} {i : Int32} (h1 : hB (xS x).1 i → Q (some (.int 1)) (mkG x m)) (h0 : ¬ hB (xS x).1 i → Q (some (.int 0)) (mkG x m)) : Sm E n_X4_isHeard 0 (pl_entry 2 [.ref 10, .int i], [], mkG x m, 0, 0) Q := by
  refine pm_go (aX4_isHeard E) 100 rfl ?_
  conv => whnf
  refine ⟨fun q => ?_, fun q => ?_⟩
  · conv => whnf
    exact ⟨rfl, h0 q⟩
  · conv => whnf
    exact ⟨rfl, h1 q⟩
theorem c_meets {E : pm_E} {Q : pm_Q} {x : zD} {m : List va_E} {i t : Int32} {b e : Int64} (hi : vp_in i 6) (h1 : fB (xS x).1 i t ≤ e ∧ b ≤ fE (xS x).1 i t → Q (some (.int 1)) (mkG x m)) (h0 : ¬ (fB (xS x).1 i t ≤ e ∧ b ≤ fE (xS x).1 i t) → Q (some (.int 0)) (mkG x m)) : Sm E n_X4_meets 0 (pl_entry 7 [.ref 10, .int i, .int t, .long b, .long e], [], mkG x m, 0, 0) Q := by
  refine pm_go (aX4_meets E) 100 rfl ?_
  conv => whnf
  refine ⟨trivial, c_begin hi ?_⟩
  conv => whnf
  refine ⟨fun q => ?_, fun q => ?_⟩
  · conv => whnf
    exact ⟨rfl, h0 (fun z => Int64.not_lt.mpr z.1 q)⟩
  · conv => whnf
    refine ⟨trivial, c_end hi ?_⟩
    conv => whnf
    refine ⟨fun q2 => ?_, fun q2 => ?_⟩
    · conv => whnf
      exact ⟨rfl, h0 (fun z => Int64.not_lt.mpr z.2 q2)⟩
    · conv => whnf
      exact ⟨rfl, h1 ⟨Int64.not_lt.mp q, Int64.not_lt.mp q2⟩⟩
/-! the spans at hand: a list of pairs; how many of them hold a tick -/
abbrev zR : Type := List (Int64 × Int64)
def hold (t : Int64) (q : Int64 × Int64) : Bool := decide (q.1 ≤ t) && decide (t ≤ q.2)
def cnt (l : zR) (t : Int64) : Nat := l.countP (hold t)
def AR (A : zA) (l : zR) : Prop := A.2.2.1 = nI l.length ∧ l.length ≤ 6 ∧ ∀ (j : Nat) (q : Int64 × Int64), l[j]? = some q → A.1 j = q.1 ∧ A.2.1 j = q.2
theorem AR.lt {A : zA} {l : zR} (h : AR A l) {j : Nat} (hj : j < l.length) : vp_in (nI j) 6 := vp_in_nI (by have := h.2.1; omega) (by decide)
theorem cnt_f {l : zR} {q : Int64 × Int64} {t : Int64} (h : hold t q = false) : cnt (q :: l) t = cnt l t := by simp [cnt, h]
theorem cnt_t {l : zR} {q : Int64 × Int64} {t : Int64} (h : hold t q = true) : cnt (q :: l) t = cnt l t + 1 := by simp [cnt, h]
theorem drop_at {α : Type} {l : List α} {i : Nat} (h : i < l.length) : l.drop i = l[i] :: l.drop (i + 1) := (List.getElem_cons_drop h).symm
theorem l_hold {E : pm_E} {Q : pm_Q} {x : zD} {m : List va_E} {t : Int64} {l : zR} (hl : AR (xA x) l) : ∀ (n i c : Nat), i + n = l.length → Q (some (.int (nI (c + cnt (l.drop i) t)))) (mkG x m) → Sm E n_X0_howManyHold 5 ([some (.ref 88), some (.long t), none, some (.int (nI c)), some (.int (nI i))], [], mkG x m, 0, 0) Q := by
  intro n
  induction n with
  | zero =>
    intro i c hi h
    refine pm_lp (aX0_howManyHold E) 100 5 rfl ?_
    conv => whnf
    have hlen := hl.2.1
    refine ⟨fun q => ?_, fun q => absurd (show (xA x).2.2.1 ≤ nI i by rw [hl.1]; exact nI_le (by omega) (by omega)) q⟩
    conv => whnf
    refine ⟨trivial, ?_⟩
    rw [List.drop_eq_nil_of_le (by omega)] at h
    exact h
  | succ n ih =>
    intro i c hi h
    have hlt : i < l.length := by omega
    have hlen := hl.2.1
    obtain ⟨e1, e2⟩ := hl.2.2 i _ (List.getElem?_eq_getElem hlt)
    have hcl : (nI i).toNatClampNeg = i := nI_clamp (by omega)
    rw [drop_at hlt] at h
    refine pm_lp (aX0_howManyHold E) 100 5 rfl ?_
    conv => whnf
    refine ⟨fun q => absurd (show (xA x).2.2.1 ≤ nI i from q) (by rw [hl.1]; exact nI_ge hlt (by omega)), fun _ => ?_⟩
    conv => whnf
    refine ⟨hl.lt hlt, ?_⟩
    conv => whnf
    refine ⟨fun q => ?_, fun q => ?_⟩
    · conv => whnf
      refine ⟨trivial, ?_⟩
      have q' : t < l[i].1 := by rw [← e1, ← hcl]; exact q
      have hh : hold t l[i] = false := by simp [hold, Int64.not_le.mpr q']
      have hc : cnt (l[i] :: l.drop (i + 1)) t = cnt (l.drop (i + 1)) t := cnt_f hh
      rw [hc] at h
      have := ih (i + 1) c (by omega) h
      rw [nI_succ] at this
      exact this
    · conv => whnf
      refine ⟨hl.lt hlt, ?_⟩
      conv => whnf
      have q' : ¬ t < l[i].1 := by rw [← e1, ← hcl]; exact q
      refine ⟨fun q2 => ?_, fun q2 => ?_⟩
      · conv => whnf
        refine ⟨trivial, ?_⟩
        have q2' : l[i].2 < t := by rw [← e2, ← hcl]; exact q2
        have hh : hold t l[i] = false := by simp [hold, Int64.not_le.mpr q2']
        have hc : cnt (l[i] :: l.drop (i + 1)) t = cnt (l.drop (i + 1)) t := cnt_f hh
        rw [hc] at h
        have := ih (i + 1) c (by omega) h
        rw [nI_succ] at this
        exact this
      · conv => whnf
        refine ⟨trivial, ?_⟩
        have q2' : ¬ l[i].2 < t := by rw [← e2, ← hcl]; exact q2
        have hh : hold t l[i] = true := by simp [hold, Int64.not_lt.mp q', Int64.not_lt.mp q2']
        have hc : cnt (l[i] :: l.drop (i + 1)) t = cnt (l.drop (i + 1)) t + 1 := cnt_t hh
        rw [hc, show c + (cnt (l.drop (i + 1)) t + 1) = (c + 1) + cnt (l.drop (i + 1)) t by omega] at h
        have := ih (i + 1) (c + 1) (by omega) h
        rw [nI_succ, nI_succ] at this
        exact this
theorem c_hold {E : pm_E} {Q : pm_Q} {x : zD} {m : List va_E} {t : Int64} {l : zR} (hl : AR (xA x) l) (h : Q (some (.int (nI (cnt l t)))) (mkG x m)) : Sm E n_X0_howManyHold 0 (pl_entry 5 [.ref 88, .long t], [], mkG x m, 0, 0) Q := by
  refine pm_go (aX0_howManyHold E) 100 rfl ?_
  conv => whnf
  refine ⟨trivial, ?_⟩
  have := l_hold (E := E) (Q := Q) (m := m) (t := t) hl l.length 0 0 (by omega) (by rw [Nat.zero_add]; exact h)
  exact this
