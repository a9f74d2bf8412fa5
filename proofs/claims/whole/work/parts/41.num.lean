/-! ===== the reference: numbers and signs of the text ===== -/
def tQ (m : zN) (a : Int32) (g r : Nat → Int64) : zN := (m.1, m.2.1, m.2.2.1, m.2.2.2.1, m.2.2.2.2.1, a, g, r, m.2.2.2.2.2.2.2.2)
def TX (T : zT) (m : zN) (n : Nat) : Prop := n ≤ 200 ∧ mZ m = nI n ∧ (∀ j, j < n → mX m j = ch T j) ∧ ∀ j, n ≤ j → ch T j = 0
def numR (c : Nat → Int32) (p p' : Nat) (V : Int64) : Prop := match pRun c 19 p 0 with
  | some (q, v) => p' = q ∧ V = if q = p then -1 else v
  | none => V = -1
def sgR (c : Nat → Int32) (p : Nat) (mk s : Int32) (p' : Nat) : Prop := (s = 1 ∧ c p = mk ∧ p' = p + 1) ∨ (s = 0 ∧ ¬ c p = mk ∧ p' = p)
theorem fig {z : Int32} : (48 ≤ z.toInt64 ∧ z.toInt64 ≤ 57) ↔ (48 ≤ z ∧ z ≤ 57) := by
  rw [show (48 : Int64) = (48 : Int32).toInt64 by decide, show (57 : Int64) = (57 : Int32).toInt64 by decide, t64_le, t64_le]
theorem l_numB {E : pm_E} {Q : pm_Q} {T : zT} {y : zD} {m : zN} {n p0 : Nat} {g r : Nat → Int64} (hX : TX T m n) (hp0 : p0 ≤ n) : ∀ (k p : Nat) (o5 o6 : Option Value), p + k = p0 + 19 → p ≤ n → (∀ p', p ≤ p' → p' ≤ n → Q (some (.long (-1))) (mkH y (tQ m (nI p') g r))) → Sm E n_X9_takeNumber 10 ([some (.ref 92), some (.long 0), none, some (.int 0), some (.int (nI p0)), o5, o6], [], mkH y (tQ m (nI p) g r), 0, 0) Q := by
  obtain ⟨hn2, hz, hx, hx0⟩ := hX
  have e19 : nI p0 + 19 = nI (p0 + 19) := nI_add p0 19
  intro k
  induction k with
  | zero =>
    intro p o5 o6 hk hpn h
    refine pm_lp (aX9_takeNumber E) 100 10 rfl ?_
    conv => whnf
    refine ⟨fun q => ?_, fun q => ?_⟩
    · conv => whnf
      refine ⟨fun q2 => ?_, fun q2 => ?_⟩
      · conv => whnf
        exact ⟨trivial, h p (Nat.le_refl _) hpn⟩
      · conv => whnf
        refine ⟨fun _ => ?_, fun z => absurd rfl z⟩
        conv => whnf
        exact ⟨trivial, h p (Nat.le_refl _) hpn⟩
    · conv => whnf
      refine ⟨fun _ => ?_, fun z => absurd (show nI p0 + 19 ≤ nI p by rw [e19]; exact nI_le (by omega) (by omega)) z⟩
      conv => whnf
      refine ⟨fun q2 => ?_, fun q2 => ?_⟩
      · conv => whnf
        exact ⟨trivial, h p (Nat.le_refl _) hpn⟩
      · conv => whnf
        refine ⟨fun _ => ?_, fun z => absurd rfl z⟩
        conv => whnf
        exact ⟨trivial, h p (Nat.le_refl _) hpn⟩
  | succ k ih =>
    intro p o5 o6 hk hpn h
    refine pm_lp (aX9_takeNumber E) 100 10 rfl ?_
    conv => whnf
    refine ⟨fun q => ?_, fun q => ?_⟩
    · conv => whnf
      refine ⟨fun q2 => ?_, fun q2 => ?_⟩
      · conv => whnf
        exact ⟨trivial, h p (Nat.le_refl _) hpn⟩
      · conv => whnf
        refine ⟨fun _ => ?_, fun z => absurd rfl z⟩
        conv => whnf
        exact ⟨trivial, h p (Nat.le_refl _) hpn⟩
    · have q' : ¬ mZ m ≤ nI p := q
      have hlt : p < n := by
        rcases Nat.lt_or_ge p n with z | z
        · exact z
        · exact absurd (show mZ m ≤ nI p by rw [hz]; exact nI_le z (by omega)) q'
      have ip : vp_in (nI p) 200 := inA (by omega) (by decide)
      have nx := fun o5 o6 => ih (p + 1) o5 o6 (by omega) (by omega) (fun p' h1 h2 => h p' (by omega) h2)
      rw [nI_succ] at nx
      conv => whnf
      refine ⟨fun z => absurd (show nI p0 + 19 ≤ nI p from z) (by rw [e19]; exact nI_ge (by omega) (by omega)), fun _ => ?_⟩
      conv => whnf
      refine ⟨ip, ?_⟩
      conv => whnf
      refine ⟨trivial, m_within (fun q3 => ?_) (fun q3 => ?_)⟩
      · conv => whnf
        refine ⟨fun z => absurd z (by decide), fun _ => ?_⟩
        conv => whnf
        refine ⟨ip, ?_⟩
        conv => whnf
        refine ⟨fun _ => ?_, fun z => absurd rfl z⟩
        conv => whnf
        refine ⟨fun _ => ?_, fun z => absurd rfl z⟩
        conv => whnf
        refine ⟨trivial, ?_⟩
        exact nx _ _
      · conv => whnf
        refine ⟨fun _ => ?_, fun z => absurd rfl z⟩
        conv => whnf
        refine ⟨fun q2 => ?_, fun q2 => ?_⟩
        · conv => whnf
          exact ⟨trivial, h p (Nat.le_refl _) hpn⟩
        · conv => whnf
          refine ⟨fun _ => ?_, fun z => absurd rfl z⟩
          conv => whnf
          exact ⟨trivial, h p (Nat.le_refl _) hpn⟩
theorem l_numA {E : pm_E} {Q : pm_Q} {T : zT} {y : zD} {m : zN} {n p0 : Nat} {g r : Nat → Int64} (hX : TX T m n) (hp0 : p0 ≤ n) : ∀ (k p : Nat) (v : Int64) (o5 o6 : Option Value), p + k = p0 + 19 → p0 ≤ p → p ≤ n → (∀ p' V, p ≤ p' → p' ≤ n → (match pRun (ch T) k p v with | some (q, w) => p' = q ∧ V = (if q = p0 then -1 else w) | none => V = -1) → Q (some (.long V)) (mkH y (tQ m (nI p') g r))) → Sm E n_X9_takeNumber 10 ([some (.ref 92), some (.long v), none, some (.int 1), some (.int (nI p0)), o5, o6], [], mkH y (tQ m (nI p) g r), 0, 0) Q := by
  have hX0 := hX
  obtain ⟨hn2, hz, hx, hx0⟩ := hX
  have e19 : nI p0 + 19 = nI (p0 + 19) := nI_add p0 19
  intro k
  induction k with
  | zero =>
    intro p v o5 o6 hk hpp hpn h
    have ex1 : pRun (ch T) 0 p v = some (p, v) → nI p ≤ nI p0 → Q (some (.long (-1))) (mkH y (tQ m (nI p) g r)) := fun e z => h p (-1) (Nat.le_refl _) hpn (by rw [e]; exact ⟨rfl, by rw [if_pos (by have := (nI_leI (by omega) (by omega)).mp z; omega)]⟩)
    have ex2 : pRun (ch T) 0 p v = some (p, v) → ¬ nI p ≤ nI p0 → Q (some (.long v)) (mkH y (tQ m (nI p) g r)) := fun e z => h p v (Nat.le_refl _) hpn (by rw [e]; exact ⟨rfl, by rw [if_neg (fun u => z (by rw [u]; exact Int32.le_refl _))]⟩)
    refine pm_lp (aX9_takeNumber E) 100 10 rfl ?_
    conv => whnf
    refine ⟨fun q => ?_, fun q => ?_⟩
    · conv => whnf
      refine ⟨fun q2 => ?_, fun q2 => ?_⟩
      · conv => whnf
        exact ⟨trivial, ex1 (rfl) q2⟩
      · conv => whnf
        refine ⟨fun z => absurd z (by decide), fun _ => ?_⟩
        conv => whnf
        exact ⟨trivial, ex2 (rfl) q2⟩
    · conv => whnf
      refine ⟨fun _ => ?_, fun z => absurd (show nI p0 + 19 ≤ nI p by rw [e19]; exact nI_le (by omega) (by omega)) z⟩
      conv => whnf
      refine ⟨fun q2 => ?_, fun q2 => ?_⟩
      · conv => whnf
        exact ⟨trivial, ex1 (rfl) q2⟩
      · conv => whnf
        refine ⟨fun z => absurd z (by decide), fun _ => ?_⟩
        conv => whnf
        exact ⟨trivial, ex2 (rfl) q2⟩
  | succ k ih =>
    intro p v o5 o6 hk hpp hpn h
    have ex1 : pRun (ch T) (k + 1) p v = some (p, v) → nI p ≤ nI p0 → Q (some (.long (-1))) (mkH y (tQ m (nI p) g r)) := fun e z => h p (-1) (Nat.le_refl _) hpn (by rw [e]; exact ⟨rfl, by rw [if_pos (by have := (nI_leI (by omega) (by omega)).mp z; omega)]⟩)
    have ex2 : pRun (ch T) (k + 1) p v = some (p, v) → ¬ nI p ≤ nI p0 → Q (some (.long v)) (mkH y (tQ m (nI p) g r)) := fun e z => h p v (Nat.le_refl _) hpn (by rw [e]; exact ⟨rfl, by rw [if_neg (fun u => z (by rw [u]; exact Int32.le_refl _))]⟩)
    refine pm_lp (aX9_takeNumber E) 100 10 rfl ?_
    conv => whnf
    refine ⟨fun q => ?_, fun q => ?_⟩
    · have q' : mZ m ≤ nI p := q
      have hge : n ≤ p := (nI_leI (by omega) (by omega)).mp (by rw [← hz]; exact q')
      have es : pRun (ch T) (k + 1) p v = some (p, v) := by
        rw [pRun, hx0 p hge, if_neg (by decide)]
      conv => whnf
      refine ⟨fun q2 => ?_, fun q2 => ?_⟩
      · conv => whnf
        exact ⟨trivial, ex1 (es) q2⟩
      · conv => whnf
        refine ⟨fun z => absurd z (by decide), fun _ => ?_⟩
        conv => whnf
        exact ⟨trivial, ex2 (es) q2⟩
    · have q' : ¬ mZ m ≤ nI p := q
      have hlt : p < n := by
        rcases Nat.lt_or_ge p n with z | z
        · exact z
        · exact absurd (show mZ m ≤ nI p by rw [hz]; exact nI_le z (by omega)) q'
      have ip : vp_in (nI p) 200 := inA (by omega) (by decide)
      have ec : mX m (nI p).toNatClampNeg = ch T p := by rw [cl (by omega)]; exact hx p hlt
      conv => whnf
      refine ⟨fun z => absurd (show nI p0 + 19 ≤ nI p from z) (by rw [e19]; exact nI_ge (by omega) (by omega)), fun _ => ?_⟩
      conv => whnf
      refine ⟨ip, ?_⟩
      conv => whnf
      refine ⟨trivial, m_within (fun q3 => ?_) (fun q3 => ?_)⟩
      · have q3' : 48 ≤ (mX m (nI p).toNatClampNeg).toInt64 ∧ (mX m (nI p).toNatClampNeg).toInt64 ≤ 57 := q3
        rw [fig, ec] at q3'
        rw [pRun, if_pos q3'] at h
        conv => whnf
        refine ⟨fun z => absurd z (by decide), fun _ => ?_⟩
        conv => whnf
        refine ⟨ip, ?_⟩
        conv => whnf
        refine ⟨fun z => absurd z (by decide), fun _ => ?_⟩
        conv => whnf
        refine ⟨by decide, ?_⟩
        conv => whnf
        refine ⟨fun q4 => ?_, fun q4 => ?_⟩
        · have q4' : (9223372036854775807 - (mX m (nI p).toNatClampNeg - 48).toInt64) / 10 < v := q4
          rw [ec] at q4'
          rw [if_neg (Int64.not_le.mpr q4')] at h
          have nx := fun o5 o6 => l_numB (E := E) (Q := Q) (y := y) (g := g) (r := r) hX0 hp0 k (p + 1) o5 o6 (by omega) (by omega) (fun p' h1 h2 => h p' (-1) (by omega) h2 rfl)
          rw [nI_succ] at nx
          conv => whnf
          refine ⟨fun _ => ?_, fun z => absurd rfl z⟩
          conv => whnf
          refine ⟨trivial, ?_⟩
          exact nx _ _
        · have q4' : ¬ (9223372036854775807 - (mX m (nI p).toNatClampNeg - 48).toInt64) / 10 < v := q4
          rw [ec] at q4'
          rw [if_pos (Int64.not_lt.mp q4')] at h
          have nx := fun o5 o6 => ih (p + 1) (v * 10 + (ch T p - 48).toInt64) o5 o6 (by omega) (by omega) (by omega) (fun p' V h1 h2 h3 => h p' V (by omega) h2 h3)
          rw [nI_succ, Int64.mul_comm, ← ec] at nx
          conv => whnf
          refine ⟨fun z => absurd z (by decide), fun _ => ?_⟩
          conv => whnf
          refine ⟨trivial, ?_⟩
          exact nx _ _
      · have q3' : ¬ (48 ≤ (mX m (nI p).toNatClampNeg).toInt64 ∧ (mX m (nI p).toNatClampNeg).toInt64 ≤ 57) := q3
        rw [fig, ec] at q3'
        have es : pRun (ch T) (k + 1) p v = some (p, v) := by
          rw [pRun, if_neg q3']
        conv => whnf
        refine ⟨fun _ => ?_, fun z => absurd rfl z⟩
        conv => whnf
        refine ⟨fun q2 => ?_, fun q2 => ?_⟩
        · conv => whnf
          exact ⟨trivial, ex1 (es) q2⟩
        · conv => whnf
          refine ⟨fun z => absurd z (by decide), fun _ => ?_⟩
          conv => whnf
          exact ⟨trivial, ex2 (es) q2⟩
theorem m_num {E : pm_E} {Q : pm_Q} {T : zT} {y : zD} {m : zN} {n p : Nat} {g r : Nat → Int64} (hX : TX T m n) (hp : p ≤ n) (h : ∀ p' V, p ≤ p' → p' ≤ n → numR (ch T) p p' V → Q (some (.long V)) (mkH y (tQ m (nI p') g r))) : Sm E n_X9_takeNumber 0 (pl_entry 7 [.ref 92], [], mkH y (tQ m (nI p) g r), 0, 0) Q := by
  refine pm_go (aX9_takeNumber E) 100 rfl ?_
  conv => whnf
  refine ⟨trivial, ?_⟩
  exact l_numA hX hp 19 p 0 none none (by omega) (Nat.le_refl _) hp (fun p' V h1 h2 h3 => h p' V h1 h2 h3)
theorem m_sign {E : pm_E} {Q : pm_Q} {T : zT} {y : zD} {m : zN} {n p : Nat} {mk : Int32} {g r : Nat → Int64} (hX : TX T m n) (hp : p ≤ n) (hmk : ¬ mk = 0) (h : ∀ s p', p ≤ p' → p' ≤ n → sgR (ch T) p mk s p' → Q (some (.int s)) (mkH y (tQ m (nI p') g r))) : Sm E n_X9_takeSign 0 (pl_entry 3 [.ref 92, .int mk], [], mkH y (tQ m (nI p) g r), 0, 0) Q := by
  obtain ⟨hn2, hz, hx, hx0⟩ := hX
  have no : ¬ ch T p = mk → Q (some (.int 0)) (mkH y (tQ m (nI p + 0) g r)) := fun z => by
    rw [Int32.add_zero]
    exact h 0 p (Nat.le_refl _) hp (Or.inr ⟨rfl, z, rfl⟩)
  refine pm_go (aX9_takeSign E) 100 rfl ?_
  conv => whnf
  refine ⟨fun q => ?_, fun q => ?_⟩
  · have q' : mZ m ≤ nI p := q
    have hge : n ≤ p := (nI_leI (by omega) (by omega)).mp (by rw [← hz]; exact q')
    conv => whnf
    refine ⟨fun _ => ?_, fun z => absurd rfl z⟩
    conv => whnf
    exact ⟨rfl, no (fun z => hmk (by rw [← z, hx0 p hge]))⟩
  · have q' : ¬ mZ m ≤ nI p := q
    have hlt : p < n := by
      rcases Nat.lt_or_ge p n with z | z
      · exact z
      · exact absurd (show mZ m ≤ nI p by rw [hz]; exact nI_le z (by omega)) q'
    have ec : mX m (nI p).toNatClampNeg = ch T p := by rw [cl (by omega)]; exact hx p hlt
    conv => whnf
    refine ⟨inA (by omega) (by decide), ?_⟩
    conv => whnf
    refine ⟨fun q2 => ?_, fun q2 => ?_⟩
    · have q2' : ¬ mX m (nI p).toNatClampNeg = mk := q2
      rw [ec] at q2'
      conv => whnf
      refine ⟨fun _ => ?_, fun z => absurd rfl z⟩
      conv => whnf
      exact ⟨rfl, no q2'⟩
    · have q2' : mX m (nI p).toNatClampNeg = mk := q2
      rw [ec] at q2'
      have hh := h 1 (p + 1) (by omega) (by omega) (Or.inl ⟨rfl, q2', rfl⟩)
      rw [nI_succ] at hh
      conv => whnf
      refine ⟨fun z => absurd z (by decide), fun _ => ?_⟩
      conv => whnf
      exact ⟨rfl, hh⟩
theorem nm_ok {c : Nat → Int32} {p p1 p2 : Nat} {V : Int64} {mk s : Int32} (h1 : numR c p p1 V) (h2 : sgR c p1 mk s p2) : (pNM c p mk = some (p2, V) ∧ s = 1) ∨ (pNM c p mk = none ∧ (s = 0 ∨ V = -1)) := by
  unfold numR at h1
  unfold pNM
  generalize pRun c 19 p 0 = R at h1
  match R, h1 with
  | none, h1 => exact Or.inr ⟨rfl, Or.inr h1⟩
  | some (q, v), h1 =>
    obtain ⟨rfl, hV⟩ := h1
    show ((if p1 = p then none else if c p1 = mk then some (p1 + 1, v) else none) = some (p2, V) ∧ s = 1) ∨ ((if p1 = p then none else if c p1 = mk then some (p1 + 1, v) else none) = none ∧ (s = 0 ∨ V = -1))
    by_cases q : p1 = p
    · rw [if_pos q] at hV ⊢
      exact Or.inr ⟨rfl, Or.inr hV⟩
    · rw [if_neg q] at hV ⊢
      rcases h2 with ⟨a, b, e⟩ | ⟨a, b, e⟩
      · rw [if_pos b, hV, e]
        exact Or.inl ⟨rfl, a⟩
      · rw [if_neg b]
        exact Or.inr ⟨rfl, Or.inl a⟩
/-- what a number with its mark says of the number alone -/
theorem nm_num {c : Nat → Int32} {p p1 q : Nat} {V v : Int64} {mk : Int32} (h1 : numR c p p1 V) (h : pNM c p mk = some (q, v)) : V = v ∧ c p1 = mk ∧ q = p1 + 1 := by
  unfold numR at h1
  unfold pNM at h
  generalize pRun c 19 p 0 = R at h1 h
  match R, h1, h with
  | some (q', v'), h1, h =>
    obtain ⟨rfl, hV⟩ := h1
    have h : (if p1 = p then none else if c p1 = mk then some (p1 + 1, v') else none) = some (q, v) := h
    by_cases u : p1 = p
    · rw [if_pos u] at h
      cases h
    · rw [if_neg u] at hV h
      by_cases w : c p1 = mk
      · rw [if_pos w] at h
        cases h
        exact ⟨hV, w, rfl⟩
      · rw [if_neg w] at h
        cases h
