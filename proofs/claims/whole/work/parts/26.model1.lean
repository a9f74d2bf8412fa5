/-! ===== the reference: places of its cells, the relation to the class's ===== -/
abbrev zF : Type := (Nat → Int64) × (Nat → Int64) × Int32 × Int32 × Int64 × Int64
abbrev mN (m : zN) : Nat → Int64 := m.1
abbrev mP (m : zN) : Nat → Int64 := m.2.1
abbrev mK (m : zN) : Int32 := m.2.2.1
abbrev mX (m : zN) : Nat → Int32 := m.2.2.2.1
abbrev mZ (m : zN) : Int32 := m.2.2.2.2.1
abbrev mAt (m : zN) : Int32 := m.2.2.2.2.2.1
abbrev mM (m : zN) : Nat → Int64 := m.2.2.2.2.2.2.1
abbrev mR (m : zN) : Nat → Int64 := m.2.2.2.2.2.2.2.1
abbrev mL (m : zN) : Nat → Int64 := m.2.2.2.2.2.2.2.2.1
abbrev mF (m : zN) : zF := m.2.2.2.2.2.2.2.2.2
def tN (m : zN) (f : Nat → Int64) : zN := (f, m.2)
def tP (m : zN) (f : Nat → Int64) (k : Int32) : zN := (m.1, f, k, m.2.2.2)
def tX (m : zN) (f : Nat → Int32) (z : Int32) : zN := (m.1, m.2.1, m.2.2.1, f, z, m.2.2.2.2.2)
def tA (m : zN) (a : Int32) : zN := (m.1, m.2.1, m.2.2.1, m.2.2.2.1, m.2.2.2.2.1, a, m.2.2.2.2.2.2)
def tM (m : zN) (f : Nat → Int64) : zN := (m.1, m.2.1, m.2.2.1, m.2.2.2.1, m.2.2.2.2.1, m.2.2.2.2.2.1, f, m.2.2.2.2.2.2.2)
def tR (m : zN) (f : Nat → Int64) : zN := (m.1, m.2.1, m.2.2.1, m.2.2.2.1, m.2.2.2.2.1, m.2.2.2.2.2.1, m.2.2.2.2.2.2.1, f, m.2.2.2.2.2.2.2.2)
def tL (m : zN) (f : Nat → Int64) : zN := (m.1, m.2.1, m.2.2.1, m.2.2.2.1, m.2.2.2.2.1, m.2.2.2.2.2.1, m.2.2.2.2.2.2.1, m.2.2.2.2.2.2.2.1, f, m.2.2.2.2.2.2.2.2.2)
def tF (m : zN) (F : zF) : zN := (m.1, m.2.1, m.2.2.1, m.2.2.2.1, m.2.2.2.2.1, m.2.2.2.2.2.1, m.2.2.2.2.2.2.1, m.2.2.2.2.2.2.2.1, m.2.2.2.2.2.2.2.2.1, F)
/-- a state's bits -/
def hw (w1 w2 i : Nat) : Bool := w1.testBit i && !w2.testBit i
/-- what the class's state may be, behind k calls -/
def WM (k : Nat) (M : zM) (loc : Nat) : Prop := ∃ dr w1 w2 : Nat, M.2.2.2.2.2 = nI dr ∧ dr ≤ 999999 ∧ M.2.2.2.1 = nI w1 ∧ w1 < 64 ∧ M.2.2.2.2.1 = nI w2 ∧ w2 < 64 ∧ loc ≤ 5000 * k ∧ ∀ i, i < 6 → w1.testBit i = true → okSpan (M.1 i) (M.2.1 i) ∧ ∃ u : Nat, u ≤ loc ∧ M.2.2.1 i = nI u
def WC (C : zC) : Prop := ∃ d s : Nat, d ≤ s ∧ s ≤ 16 ∧ cSz C = nI s ∧ cDn C = nI d ∧ (∀ c, c < s → (∃ a : Nat, a < 6 ∧ C.1 c = nI a) ∧ (∃ b : Nat, b ≤ 999999 ∧ C.2.1 c = nI b) ∧ (∃ u : Nat, u < 2 ^ 31 ∧ C.2.2.2.1 c = nI u) ∧ -1125899906842624 ≤ (C.2.2.1 c).toInt ∧ (C.2.2.1 c).toInt ≤ 1100000000000 + c) ∧ (∀ c, c + 1 < s → (C.2.2.1 c).toInt < (C.2.2.1 (c + 1)).toInt) ∧ ∀ c, c < d → ∃ u : Nat, u < 2 ^ 31 ∧ C.2.2.2.2.1 c = nI u
def WF (k : Nat) (S : zS) : Prop := WC S.2.1 ∧ ∃ loc : Nat, S.2.2 = nI loc ∧ WM k S.1 loc
/-- the reference's row of a state -/
def RS (S : zS) (f : Nat → Int64) : Prop :=
  (f 0 = S.2.2.toInt64 ∧ f 1 = S.1.2.2.2.2.2.toInt64 ∧ f 2 = S.1.2.2.2.2.1.toInt64 ∧ f 3 = (cSz S.2.1).toInt64) ∧
  (∀ i, i < 6 → (f (4 + 4 * i) = if ((S.1.2.2.2.1 >>> (nI i &&& 31)) &&& 1 = 1) then 1 else 0) ∧ ((S.1.2.2.2.1 >>> (nI i &&& 31)) &&& 1 = 1 → f (4 + 4 * i + 1) = S.1.1 i ∧ f (4 + 4 * i + 2) = S.1.2.1 i ∧ f (4 + 4 * i + 3) = (S.1.2.2.1 i).toInt64)) ∧
  (∀ c, c < (cSz S.2.1).toNatClampNeg → f (28 + 5 * c) = (S.2.1.1 c).toInt64 ∧ f (28 + 5 * c + 1) = (S.2.1.2.1 c).toInt64 ∧ f (28 + 5 * c + 2) = S.2.1.2.2.1 c ∧ f (28 + 5 * c + 3) = (S.2.1.2.2.2.1 c).toInt64 ∧ f (28 + 5 * c + 4) = if c < (cDn S.2.1).toNatClampNeg then (S.2.1.2.2.2.2.1 c).toInt64 else -4)
theorem WC.ok {C : zC} (h : WC C) : okC C := by
  obtain ⟨d, s, h1, h2, h3, h4, -⟩ := h
  exact ⟨d, s, h1, h2, h3, h4⟩
-- places in the rows
theorem ix4 {i : Nat} : (4 : Int32) + 4 * nI i = nI (4 + 4 * i) := by
  rw [show (4 : Int32) = nI 4 from rfl, pk_mul, nI_add]
theorem ix4k {i k : Nat} : (4 : Int32) + 4 * nI i + nI k = nI (4 + 4 * i + k) := by
  rw [ix4, nI_add]
theorem ix28 {c : Nat} : (28 : Int32) + 5 * nI c = nI (28 + 5 * c) := by
  rw [show (5 : Int32) = nI 5 from rfl, show (28 : Int32) = nI 28 from rfl, pk_mul, nI_add]
theorem ix28k {c k : Nat} : (28 : Int32) + 5 * nI c + nI k = nI (28 + 5 * c + k) := by
  rw [ix28, nI_add]
theorem cl {n : Nat} (h : n < 1000) : (nI n).toNatClampNeg = n := nI_clamp (by omega)
theorem inA {n N : Nat} (h : n < N) (hN : N < 1000) : vp_in (nI n) N := vp_in_nI h (by omega)
-- bits, by all their cases
theorem bit32 : ∀ w, w < 64 → ∀ i, i < 6 → ((nI w >>> (nI i &&& 31)) &&& 1 = 1 ↔ w.testBit i = true) := by decide +kernel
theorem bit64 : ∀ w, w < 64 → ∀ i, i < 6 → ((nI w).toInt64 >>> ((nI i).toInt64 &&& 63)) &&& 1 = (if w.testBit i = true then 1 else 0) := by decide +kernel
theorem bitH : ∀ w1, w1 < 64 → ∀ w2, w2 < 64 → ∀ i, i < 6 → (((nI w1 &&& (nI w2 ^^^ (-1))) >>> (nI i &&& 31)) &&& 1 = 1 ↔ hw w1 w2 i = true) := by decide +kernel
def cH (w1 w2 : Nat) : Nat → Nat
  | 0 => 0
  | i + 1 => if hw w1 w2 i = true then cH w1 w2 i + 1 else cH w1 w2 i
theorem bitN : ∀ w1, w1 < 64 → ∀ w2, w2 < 64 → bc (nI w1 &&& (nI w2 ^^^ (-1))) = nI (cH w1 w2 6) := by decide +kernel
theorem m_within {E : pm_E} {Q : pm_Q} {h : List va_E} {v a b : Int64} (h1 : a ≤ v ∧ v ≤ b → Q (some (.int 1)) h) (h0 : ¬ (a ≤ v ∧ v ≤ b) → Q (some (.int 0)) h) : Sm E n_X9_within 0 (pl_entry 6 [.long v, .long a, .long b], [], h, 0, 0) Q := by
  refine pm_go (aX9_within E) 100 rfl ?_
  conv => whnf
  refine ⟨fun q => ?_, fun q => ?_⟩
  · conv => whnf
    exact ⟨rfl, h0 (fun z => Int64.not_lt.mpr z.1 q)⟩
  · conv => whnf
    refine ⟨fun q2 => ?_, fun q2 => ?_⟩
    · conv => whnf
      exact ⟨rfl, h0 (fun z => Int64.not_lt.mpr z.2 q2)⟩
    · conv => whnf
      exact ⟨rfl, h1 ⟨Int64.not_lt.mp q, Int64.not_lt.mp q2⟩⟩
theorem m_isMaster {E : pm_E} {Q : pm_Q} {h : List va_E} {i : Int32} (h1 : 0 ≤ i.toInt64 ∧ i.toInt64 ≤ 5 → Q (some (.int 1)) h) (h0 : ¬ (0 ≤ i.toInt64 ∧ i.toInt64 ≤ 5) → Q (some (.int 0)) h) : Sm E n_X9_isMaster 0 (pl_entry 1 [.int i], [], h, 0, 0) Q := by
  refine pm_go (aX9_isMaster E) 100 rfl ?_
  conv => whnf
  refine ⟨trivial, m_within (fun q => ?_) (fun q => ?_)⟩
  · conv => whnf
    exact ⟨rfl, h1 q⟩
  · conv => whnf
    exact ⟨rfl, h0 q⟩
theorem m_isStruck {E : pm_E} {Q : pm_Q} {y : zD} {m : zN} {w2 i : Nat} (hi : i < 6) (h2 : mN m 2 = (nI w2).toInt64) (hw2 : w2 < 64) (h1 : w2.testBit i = true → Q (some (.int 1)) (mkH y m)) (h0 : ¬ w2.testBit i = true → Q (some (.int 0)) (mkH y m)) : Sm E n_X9_isStruck 0 (pl_entry 2 [.ref 92, .int (nI i)], [], mkH y m, 0, 0) Q := by
  have hb := bit64 w2 hw2 i hi
  refine pm_go (aX9_isStruck E) 100 rfl ?_
  conv => whnf
  refine ⟨inA (n := 2) (by decide) (by decide), ?_⟩
  conv => whnf
  refine ⟨fun q => ?_, fun q => ?_⟩
  · have q' : ¬ ((mN m 2) >>> ((nI i).toInt64 &&& 63)) &&& 1 = 1 := q
    rw [h2, hb] at q'
    conv => whnf
    refine ⟨rfl, h0 (fun z => q' (by rw [if_pos z]))⟩
  · have q' : ((mN m 2) >>> ((nI i).toInt64 &&& 63)) &&& 1 = 1 := q
    rw [h2, hb] at q'
    conv => whnf
    refine ⟨rfl, h1 ?_⟩
    by_cases z : w2.testBit i = true
    · exact z
    · rw [if_neg z] at q'
      exact absurd q' (by decide)
theorem hB_hw {k loc : Nat} {M : zM} (hW : WM k M loc) : ∃ w1 w2 : Nat, w1 < 64 ∧ w2 < 64 ∧ M.2.2.2.1 = nI w1 ∧ M.2.2.2.2.1 = nI w2 ∧ (∀ i, i < 6 → (hB M (nI i) ↔ hw w1 w2 i = true)) ∧ nHd M = nI (cH w1 w2 6) := by
  obtain ⟨dr, w1, w2, -, -, h1, hw1, h2, hw2, -⟩ := hW
  refine ⟨w1, w2, hw1, hw2, h1, h2, fun i hi => ?_, ?_⟩
  · show ((M.2.2.2.1 &&& (M.2.2.2.2.1 ^^^ (-1))) >>> (nI i &&& 31)) &&& 1 = 1 ↔ _
    rw [h1, h2]
    exact bitH w1 hw1 w2 hw2 i hi
  · show bc (M.2.2.2.1 &&& (M.2.2.2.2.1 ^^^ (-1))) = _
    rw [h1, h2]
    exact bitN w1 hw1 w2 hw2
theorem m_isHeard {E : pm_E} {Q : pm_Q} {y : zD} {m : zN} {k loc i : Nat} {S : zS} (hi : i < 6) (hW : WM k S.1 loc) (hR : RS S (mN m)) (h1 : hB S.1 (nI i) → Q (some (.int 1)) (mkH y m)) (h0 : ¬ hB S.1 (nI i) → Q (some (.int 0)) (mkH y m)) : Sm E n_X9_isHeard 0 (pl_entry 2 [.ref 92, .int (nI i)], [], mkH y m, 0, 0) Q := by
  obtain ⟨w1, w2, hw1, hw2, e1, e2, hh, -⟩ := hB_hw hW
  have ht := (hR.2.1 i hi).1
  rw [e1] at ht
  have hb := bit32 w1 hw1 i hi
  have e4 : ((4 : Int32) + 4 * nI i).toNatClampNeg = 4 + 4 * i := by rw [ix4]; exact cl (by omega)
  refine pm_go (aX9_isHeard E) 100 rfl ?_
  conv => whnf
  refine ⟨by rw [ix4]; exact inA (by omega) (by decide), ?_⟩
  conv => whnf
  refine ⟨fun q => ?_, fun q => ?_⟩
  · have q' : ¬ mN m ((4 : Int32) + 4 * nI i).toNatClampNeg = 1 := q
    rw [e4, ht] at q'
    conv => whnf
    refine ⟨rfl, h0 (fun z => q' ?_)⟩
    have := (hh i hi).mp z
    unfold hw at this
    rw [Bool.and_eq_true] at this
    rw [if_pos (hb.mpr this.1)]
  · have q' : mN m ((4 : Int32) + 4 * nI i).toNatClampNeg = 1 := q
    rw [e4, ht] at q'
    have t1 : w1.testBit i = true := by
      by_cases z : (nI w1 >>> (nI i &&& 31)) &&& 1 = 1
      · exact hb.mp z
      · rw [if_neg z] at q'
        exact absurd q' (by decide)
    conv => whnf
    refine ⟨trivial, m_isStruck hi (by rw [hR.1.2.2.1, e2]) hw2 (fun z => ?_) (fun z => ?_)⟩
    · conv => whnf
      refine ⟨fun _ => ?_, fun z => absurd z (by decide)⟩
      conv => whnf
      refine ⟨rfl, h0 (fun u => ?_)⟩
      have := (hh i hi).mp u
      unfold hw at this
      rw [z] at this
      simp at this
    · conv => whnf
      refine ⟨fun z => absurd rfl z, fun _ => ?_⟩
      conv => whnf
      refine ⟨rfl, h1 ((hh i hi).mpr ?_)⟩
      unfold hw
      rw [t1]
      simp [z]
theorem l_many {E : pm_E} {Q : pm_Q} {y : zD} {m : zN} {k loc : Nat} {S : zS} (hW : WM k S.1 loc) (hR : RS S (mN m)) (w1 w2 : Nat) (hh : ∀ i, i < 6 → (hB S.1 (nI i) ↔ hw w1 w2 i = true)) (h : Q (some (.int (nI (cH w1 w2 6)))) (mkH y m)) : ∀ (n i : Nat), i + n = 6 → Sm E n_X9_heardMany 4 ([some (.ref 92), some (.int (nI (cH w1 w2 i))), some (.int (nI i))], [], mkH y m, 0, 0) Q := by
  intro n
  induction n with
  | zero =>
    intro i hi
    obtain rfl : i = 6 := by omega
    refine pm_lp (aX9_heardMany E) 100 4 rfl ?_
    conv => whnf
    refine ⟨fun _ => ?_, fun q => absurd (show (6 : Int32) ≤ nI 6 by decide) q⟩
    conv => whnf
    exact ⟨trivial, h⟩
  | succ n ih =>
    intro i hi
    have nxt := ih (i + 1) (by omega)
    rw [cH, nI_succ] at nxt
    refine pm_lp (aX9_heardMany E) 100 4 rfl ?_
    conv => whnf
    refine ⟨fun q => absurd (show nI 6 ≤ nI i from q) (nI_ge (by omega) (by decide)), fun _ => ?_⟩
    conv => whnf
    refine ⟨trivial, m_isHeard (by omega) hW hR (fun q => ?_) (fun q => ?_)⟩
    · rw [if_pos ((hh i (by omega)).mp q), nI_succ] at nxt
      conv => whnf
      refine ⟨fun z => absurd z (by decide), fun _ => ?_⟩
      conv => whnf
      exact ⟨trivial, nxt⟩
    · rw [if_neg (fun z => q ((hh i (by omega)).mpr z))] at nxt
      conv => whnf
      refine ⟨fun _ => ?_, fun z => absurd rfl z⟩
      conv => whnf
      refine ⟨trivial, ?_⟩
      have e : nI (cH w1 w2 i) + 0 = nI (cH w1 w2 i) := Int32.add_zero _
      rw [← e] at nxt
      exact nxt
theorem m_many {E : pm_E} {Q : pm_Q} {y : zD} {m : zN} {k loc : Nat} {S : zS} (hW : WM k S.1 loc) (hR : RS S (mN m)) (h : Q (some (.int (nHd S.1))) (mkH y m)) : Sm E n_X9_heardMany 0 (pl_entry 3 [.ref 92], [], mkH y m, 0, 0) Q := by
  obtain ⟨w1, w2, hw1, hw2, e1, e2, hh, hn⟩ := hB_hw hW
  rw [hn] at h
  refine pm_go (aX9_heardMany E) 100 rfl ?_
  conv => whnf
  refine ⟨trivial, ?_⟩
  exact l_many hW hR w1 w2 hh h 6 0 (by omega)
