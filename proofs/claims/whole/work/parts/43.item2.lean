/-! ===== the reference: an item, the text ===== -/
def ItS (g r : Nat → Int64) (t : zX) (g' r' : Nat → Int64) : Prop := (t.1 = 100 ∧ g' = vp_updL g 1 t.2.1 ∧ r' = r) ∨ (t.1 = 109 ∧ (∃ j : Nat, t.2.1.toInt32 = nI j ∧ j < 6 ∧ g' = pM3 g j t.2.2.1 t.2.2.2.1) ∧ r' = r) ∨ (t.1 = 115 ∧ g' = g ∧ r' = pL4 r t.2.1 t.2.2.1 t.2.2.2.1 t.2.2.2.2)
theorem pI_d1 {c : Nat → Int32} {p q : Nat} {a : Int64} (h : c p = 100) (e : pNM c (p + 1) 59 = some (q, a)) (ok : okD a) : pItem c p = some (q, 100, a, 0, 0, 0) := by
  unfold pItem
  rw [if_pos h, e]
  exact if_pos ok
theorem pI_d0 {c : Nat → Int32} {p : Nat} (h : c p = 100) (e : ∀ q a, pNM c (p + 1) 59 = some (q, a) → ¬ okD a) : pItem c p = none := by
  unfold pItem
  rw [if_pos h]
  split
  · rfl
  · rename_i q a hq
    exact if_neg (e q a hq)
theorem pI_m1 {c : Nat → Int32} {p q1 q2 q3 : Nat} {a b e : Int64} (h : c p = 109) (e1 : pNM c (p + 1) 44 = some (q1, a)) (e2 : pNM c q1 44 = some (q2, b)) (e3 : pNM c q2 59 = some (q3, e)) (ok : okL a ∧ okSpan b e) : pItem c p = some (q3, 109, a, b, e, 0) := by
  unfold pItem
  rw [if_neg (by rw [h]; decide), if_pos h, e1]
  show (match pNM c q1 44 with | none => none | some (q2, b) => _) = _
  rw [e2]
  show (match pNM c q2 59 with | none => none | some (q3, e) => _) = _
  rw [e3]
  exact if_pos ok
theorem pI_m0 {c : Nat → Int32} {p : Nat} (h : c p = 109) (e : ∀ q1 q2 q3 a b e, pNM c (p + 1) 44 = some (q1, a) → pNM c q1 44 = some (q2, b) → pNM c q2 59 = some (q3, e) → ¬ (okL a ∧ okSpan b e)) : pItem c p = none := by
  unfold pItem
  rw [if_neg (by rw [h]; decide), if_pos h]
  split
  · rfl
  · rename_i q1 a h1
    split
    · rfl
    · rename_i q2 b h2
      split
      · rfl
      · rename_i q3 e' h3
        exact if_neg (e q1 q2 q3 a b e' h1 h2 h3)
theorem pI_s1 {c : Nat → Int32} {p q1 q2 q3 q4 : Nat} {a b e d : Int64} (h : c p = 115) (e1 : pNM c (p + 1) 44 = some (q1, a)) (e2 : pNM c q1 44 = some (q2, b)) (e3 : pNM c q2 44 = some (q3, e)) (e4 : pNM c q3 59 = some (q4, d)) (ok : okLeap a b e d) : pItem c p = some (q4, 115, a, b, e, d) := by
  unfold pItem
  rw [if_neg (by rw [h]; decide), if_neg (by rw [h]; decide), if_pos h, e1]
  show (match pNM c q1 44 with | none => none | some (q2, b) => _) = _
  rw [e2]
  show (match pNM c q2 44 with | none => none | some (q3, e) => _) = _
  rw [e3]
  show (match pNM c q3 59 with | none => none | some (q4, d) => _) = _
  rw [e4]
  exact if_pos ok
theorem pI_s0 {c : Nat → Int32} {p : Nat} (h : c p = 115) (e : ∀ q1 q2 q3 q4 a b e d, pNM c (p + 1) 44 = some (q1, a) → pNM c q1 44 = some (q2, b) → pNM c q2 44 = some (q3, e) → pNM c q3 59 = some (q4, d) → ¬ okLeap a b e d) : pItem c p = none := by
  unfold pItem
  rw [if_neg (by rw [h]; decide), if_neg (by rw [h]; decide), if_pos h]
  split
  · rfl
  · rename_i q1 a h1
    split
    · rfl
    · rename_i q2 b h2
      split
      · rfl
      · rename_i q3 e' h3
        split
        · rfl
        · rename_i q4 d h4
          exact if_neg (e q1 q2 q3 q4 a b e' d h1 h2 h3 h4)
theorem pI_n {c : Nat → Int32} {p : Nat} (h1 : ¬ c p = 100) (h2 : ¬ c p = 109) (h3 : ¬ c p = 115) : pItem c p = none := by
  unfold pItem
  rw [if_neg h1, if_neg h2, if_neg h3]
theorem m_item {E : pm_E} {Q : pm_Q} {T : zT} {y : zD} {m : zN} {n p : Nat} {g r : Nat → Int64} (hX : TX T m n) (hp : p < n)
    (h1 : ∀ q t, pItem (ch T) p = some (q, t) → q ≤ n → ∀ g' r', ItS g r t g' r' → Q (some (.int 1)) (mkH y (tQ m (nI q) g' r')))
    (h0 : pItem (ch T) p = none → ∀ p' g' r', p' ≤ n → Q (some (.int 0)) (mkH y (tQ m (nI p') g' r'))) : Sm E n_X9_readItem 0 (pl_entry 5 [.ref 92], [], mkH y (tQ m (nI p) g r), 0, 0) Q := by
  have hX0 := hX
  obtain ⟨hn2, hz, hx, hx0⟩ := hX
  have ec : mX m (nI p).toNatClampNeg = ch T p := by rw [cl (by omega)]; exact hx p hp
  refine pm_go (aX9_readItem E) 100 rfl ?_
  conv => whnf
  refine ⟨inA (by omega) (by decide), ?_⟩
  conv => whnf
  refine ⟨fun q => ?_, fun q => ?_⟩
  · have q' : ¬ mX m (nI p).toNatClampNeg = 100 := q
    rw [ec] at q'
    conv => whnf
    refine ⟨fun q2 => ?_, fun q2 => ?_⟩
    · have q2' : ¬ mX m (nI p).toNatClampNeg = 109 := q2
      rw [ec] at q2'
      conv => whnf
      refine ⟨fun q3 => ?_, fun q3 => ?_⟩
      · have q3' : ¬ mX m (nI p).toNatClampNeg = 115 := q3
        rw [ec] at q3'
        have hh := h0 (pI_n q' q2' q3') (p + 1) g r (by omega)
        rw [nI_succ] at hh
        conv => whnf
        refine ⟨fun _ => ?_, fun z => absurd rfl z⟩
        conv => whnf
        exact ⟨rfl, hh⟩
      · have q3' : mX m (nI p).toNatClampNeg = 115 := q3
        rw [ec] at q3'
        have rl := fun {Q : pm_Q} => m_rdL (E := E) (Q := Q) (y := y) (g := g) (r := r) hX0 (show p + 1 ≤ n by omega)
        rw [nI_succ] at rl
        conv => whnf
        refine ⟨trivial, rl (fun q1 q2 q3 p4 a b e d e1 e2 e3 n4 ok l4 k4 => ?_) (fun p' hp' hno => ?_)⟩
        · conv => whnf
          refine ⟨fun z => absurd z (by decide), fun _ => ?_⟩
          conv => whnf
          refine ⟨trivial, m_sign hX0 k4 (by decide) (fun s p5 l5 k5 t5 => ?_)⟩
          rcases nm_ok n4 t5 with ⟨u, w⟩ | ⟨u, w⟩
          · subst w
            conv => whnf
            refine ⟨fun z => absurd z (by decide), fun _ => ?_⟩
            conv => whnf
            exact ⟨rfl, h1 _ _ (pI_s1 q3' e1 e2 e3 u ok) k5 _ _ (Or.inr (Or.inr ⟨rfl, rfl, rfl⟩))⟩
          · have w : s = 0 := w.resolve_right (fun z => absurd ok.2.2.2.1 (by rw [z]; decide))
            subst w
            conv => whnf
            refine ⟨fun _ => ?_, fun z => absurd rfl z⟩
            conv => whnf
            exact ⟨rfl, h0 (pI_s0 q3' (fun r1 r2 r3 r4 a' b' e' d' f1 f2 f3 f4 => by
              rw [e1] at f1; cases f1; rw [e2] at f2; cases f2; rw [e3] at f3; cases f3; rw [u] at f4; cases f4)) _ _ _ k5⟩
        · conv => whnf
          refine ⟨fun _ => ?_, fun z => absurd rfl z⟩
          conv => whnf
          exact ⟨rfl, h0 (pI_s0 q3' hno) _ _ _ hp'⟩
    · have q2' : mX m (nI p).toNatClampNeg = 109 := q2
      rw [ec] at q2'
      have rl := fun {Q : pm_Q} => m_rdM (E := E) (Q := Q) (y := y) (g := g) (r := r) hX0 (show p + 1 ≤ n by omega)
      rw [nI_succ] at rl
      conv => whnf
      refine ⟨trivial, rl (fun q1 q2 p3 j a b e e1 e2 n3 oL ok l3 k3 ej hj => ?_) (fun p' hp' hno => ?_)⟩
      · conv => whnf
        refine ⟨fun z => absurd z (by decide), fun _ => ?_⟩
        conv => whnf
        refine ⟨trivial, m_sign hX0 k3 (by decide) (fun s p5 l5 k5 t5 => ?_)⟩
        rcases nm_ok n3 t5 with ⟨u, w⟩ | ⟨u, w⟩
        · subst w
          conv => whnf
          refine ⟨fun z => absurd z (by decide), fun _ => ?_⟩
          conv => whnf
          exact ⟨rfl, h1 _ _ (pI_m1 q2' e1 e2 u ⟨oL, ok⟩) k5 _ _ (Or.inr (Or.inl ⟨rfl, ⟨j, ej, hj, rfl⟩, rfl⟩))⟩
        · have w : s = 0 := w.resolve_right (fun z => absurd (Int64.le_trans ok.1 ok.2.1) (by rw [z]; decide))
          subst w
          conv => whnf
          refine ⟨fun _ => ?_, fun z => absurd rfl z⟩
          conv => whnf
          exact ⟨rfl, h0 (pI_m0 q2' (fun r1 r2 r3 a' b' e' f1 f2 f3 => by
            rw [e1] at f1; cases f1; rw [e2] at f2; cases f2; rw [u] at f3; cases f3)) _ _ _ k5⟩
      · conv => whnf
        refine ⟨fun _ => ?_, fun z => absurd rfl z⟩
        conv => whnf
        exact ⟨rfl, h0 (pI_m0 q2' hno) _ _ _ hp'⟩
  · have q' : mX m (nI p).toNatClampNeg = 100 := q
    rw [ec] at q'
    have rl := fun {Q : pm_Q} => m_num (E := E) (Q := Q) (y := y) (g := g) (r := r) hX0 (show p + 1 ≤ n by omega)
    rw [nI_succ] at rl
    conv => whnf
    refine ⟨trivial, rl (fun p1 V l1 k1 n1 => ?_)⟩
    conv => whnf
    refine ⟨trivial, m_within (fun w1 => ?_) (fun w1 => ?_)⟩
    · conv => whnf
      refine ⟨inA (n := 1) (by decide) (by decide), ?_⟩
      conv => whnf
      refine ⟨fun z => absurd z (by decide), fun _ => ?_⟩
      conv => whnf
      refine ⟨trivial, m_sign (m := m) (g := vp_updL g 1 V) hX0 k1 (by decide) (fun s p5 l5 k5 t5 => ?_)⟩
      rcases nm_ok n1 t5 with ⟨u, w⟩ | ⟨u, w⟩
      · subst w
        conv => whnf
        refine ⟨fun z => absurd z (by decide), fun _ => ?_⟩
        conv => whnf
        exact ⟨rfl, h1 _ _ (pI_d1 q' u w1) k5 _ _ (Or.inl ⟨rfl, rfl, rfl⟩)⟩
      · have w : s = 0 := w.resolve_right (neg1 w1.1)
        subst w
        conv => whnf
        refine ⟨fun _ => ?_, fun z => absurd rfl z⟩
        conv => whnf
        exact ⟨rfl, h0 (pI_d0 q' (fun r1 a' f1 => by rw [u] at f1; cases f1)) _ _ _ k5⟩
    · conv => whnf
      refine ⟨inA (n := 1) (by decide) (by decide), ?_⟩
      have hh := h0 (pI_d0 q' (fun r1 a' f1 => by
        obtain ⟨rfl, -, -⟩ := nm_num n1 f1
        exact w1)) p1 (vp_updL g 1 V) r k1
      conv => whnf
      refine ⟨fun _ => ?_, fun z => absurd rfl z⟩
      conv => whnf
      exact ⟨rfl, hh⟩
