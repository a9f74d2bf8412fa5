/-! ===== the reference: the text read, and laid ===== -/
theorem l_begin {E : pm_E} {Q : pm_Q} {y : zD} {m : zN} {a : Int32} {r : Nat → Int64} (h : ∀ g', (∀ t, t < 108 → g' t = if t = 1 then 1000 else 0) → Q none (mkH y (tQ m a g' (pL4 r 1000 1 100 0)))) : ∀ (n i : Nat) (g : Nat → Int64), i + n = 108 → (∀ t, t < i → g t = 0) → Sm E n_X9_begin 2 ([some (.ref 92), some (.int (nI i))], [], mkH y (tQ m a g r), 0, 0) Q := by
  intro n
  induction n with
  | zero =>
    intro i g hi hg
    obtain rfl : i = 108 := by omega
    refine pm_lp (aX9_begin E) 100 2 rfl ?_
    conv => whnf
    refine ⟨fun _ => ?_, fun q => absurd (show (108 : Int32) ≤ nI 108 by decide) q⟩
    conv => whnf
    refine ⟨inA (n := 1) (by decide) (by decide), ?_⟩
    conv => whnf
    refine ⟨trivial, m_putL (m := m) (at' := a) (g := vp_updL g 1 1000) (r := r) ?_⟩
    conv => whnf
    refine ⟨trivial, ?_⟩
    exact h (vp_updL g 1 1000) (fun t ht => by
      by_cases q : t = 1
      · rw [if_pos q, q, upL_eq]
      · rw [if_neg q, upL_ne q, hg t ht])
  | succ n ih =>
    intro i g hi hg
    have c1 : (nI i).toNatClampNeg = i := cl (by omega)
    have nx := ih (i + 1) (vp_updL g (nI i).toNatClampNeg 0) (by omega) (fun t ht => by
      rw [c1]
      by_cases q : t = i
      · rw [q, upL_eq]
      · rw [upL_ne q, hg t (by omega)])
    rw [nI_succ] at nx
    refine pm_lp (aX9_begin E) 100 2 rfl ?_
    conv => whnf
    refine ⟨fun q => absurd (show nI 108 ≤ nI i from q) (nI_ge (by omega) (by decide)), fun _ => ?_⟩
    conv => whnf
    refine ⟨inA (by omega) (by decide), ?_⟩
    conv => whnf
    refine ⟨trivial, ?_⟩
    exact nx
theorem m_begin {E : pm_E} {Q : pm_Q} {y : zD} {m : zN} (h : ∀ g', (∀ t, t < 108 → g' t = if t = 1 then 1000 else 0) → Q none (mkH y (tQ m (mAt m) g' (pL4 (mR m) 1000 1 100 0)))) : Sm E n_X9_begin 0 (pl_entry 2 [.ref 92], [], mkH y m, 0, 0) Q := by
  refine pm_go (aX9_begin E) 100 rfl ?_
  conv => whnf
  refine ⟨trivial, ?_⟩
  exact l_begin (m := m) (a := mAt m) (r := mR m) h 108 0 (mM m) (by omega) (fun t ht => absurd ht (Nat.not_lt_zero _))
/-- what is made of the text, in both -/
def MR (s : zS × zL) (g r : Nat → Int64) : Prop := RS s.1 g ∧ WM 0 s.1.1 0 ∧ (cSz s.1.2.1 = 0 ∧ cDn s.1.2.1 = 0 ∧ s.1.2.2 = 0) ∧ (∀ i, i < 6 → g (4 + 4 * i + 3) = 0) ∧ (r 0 = s.2.1 ∧ r 1 = s.2.2.1 ∧ r 2 = s.2.2.2.1 ∧ r 3 = s.2.2.2.2) ∧ okLeap s.2.1 s.2.2.1 s.2.2.2.1 s.2.2.2.2
theorem WC.zero {C : zC} (h1 : cSz C = 0) (h2 : cDn C = 0) : WC C := ⟨0, 0, Nat.le_refl _, by omega, h1, h2, fun c hc => absurd hc (Nat.not_lt_zero _), fun c hc => absurd hc (Nat.not_lt_zero _), fun c hc => absurd hc (Nat.not_lt_zero _)⟩
theorem WM.zero {M : zM} {k : Nat} (h : WM 0 M 0) : WM k M 0 := by
  obtain ⟨dr, w1, w2, a1, a2, a3, a4, a5, a6, a7, a8⟩ := h
  exact ⟨dr, w1, w2, a1, a2, a3, a4, a5, a6, by omega, a8⟩
theorem MR.wf {s : zS × zL} {g r : Nat → Int64} {k : Nat} (h : MR s g r) : WF k s.1 := ⟨WC.zero h.2.2.1.1 h.2.2.1.2.1, 0, h.2.2.1.2.2, h.2.1.zero⟩
theorem pL4_at (r : Nat → Int64) (a b c d : Int64) : pL4 r a b c d 0 = a ∧ pL4 r a b c d 1 = b ∧ pL4 r a b c d 2 = c ∧ pL4 r a b c d 3 = d := by
  unfold pL4
  refine ⟨?_, ?_, ?_, ?_⟩
  · rw [upL_ne (by omega), upL_ne (by omega), upL_ne (by omega), upL_eq]
  · rw [upL_ne (by omega), upL_ne (by omega), upL_eq]
  · rw [upL_ne (by omega), upL_eq]
  · rw [upL_eq]
theorem MR.begin {S : zS} {g r : Nat → Int64} (hg : ∀ t, t < 108 → g t = if t = 1 then 1000 else 0) : MR (dClear S, 1000, 1, 100, 0) g (pL4 r 1000 1 100 0) := by
  have bz : ∀ i, i < 6 → ¬ ((0 : Int32) >>> (nI i &&& 31)) &&& 1 = 1 := by decide
  refine ⟨⟨⟨?_, ?_, ?_, ?_⟩, fun i hi => ⟨?_, fun z => absurd z (bz i hi)⟩, fun c hc => absurd hc (Nat.not_lt_zero _)⟩, ⟨1000, 0, 0, rfl, by omega, rfl, by omega, rfl, by omega, by omega, fun i hi hb => by simp at hb⟩, ⟨rfl, rfl, rfl⟩, fun i hi => ?_, pL4_at _ _ _ _ _, show okLeap 1000 1 100 0 by decide⟩
  · rw [hg 0 (by omega), if_neg (by omega)]; show (0 : Int64) = (0 : Int32).toInt64; decide
  · rw [hg 1 (by omega), if_pos rfl]; show (1000 : Int64) = (1000 : Int32).toInt64; decide
  · rw [hg 2 (by omega), if_neg (by omega)]; show (0 : Int64) = (0 : Int32).toInt64; decide
  · rw [hg 3 (by omega), if_neg (by omega)]; show (0 : Int64) = (0 : Int32).toInt64; decide
  · rw [hg _ (by omega), if_neg (by omega)]
    exact (if_neg (bz i hi)).symm
  · rw [hg _ (by omega), if_neg (by omega)]
theorem MR.item {s : zS × zL} {g r g' r' : Nat → Int64} {t : zX} (h : MR s g r) (hok : (t.1 = 100 ∧ okD t.2.1) ∨ (t.1 = 109 ∧ okL t.2.1 ∧ okSpan t.2.2.1 t.2.2.2.1) ∨ (t.1 = 115 ∧ okLeap t.2.1 t.2.2.1 t.2.2.2.1 t.2.2.2.2)) (hI : ItS g r t g' r') : MR (dItem s t) g' r' := by
  have hw := h.wf (k := 0)
  obtain ⟨hR, hM, hz, h3, hr, hl⟩ := h
  rcases hok with ⟨t1, ok⟩ | ⟨t1, oL, ok⟩ | ⟨t1, ok⟩
  · rcases hI with ⟨-, eg, er⟩ | ⟨u, -⟩ | ⟨u, -⟩
    · have ed : dItem s t = ((((s.1.1.1, s.1.1.2.1, s.1.1.2.2.1, s.1.1.2.2.2.1, s.1.1.2.2.2.2.1, t.2.1.toInt32), s.1.2) : zS), s.2) := if_pos t1
      obtain ⟨j, hj, ej⟩ := pk_lOf (x := t.2.1) (Int64.not_lt.mpr ok.1)
      have hj2 : j ≤ 999999 := (pk_lLE (a := j) (b := 999999) hj (by omega)).mp (by rw [← ej]; exact ok.2)
      have ei : t.2.1.toInt32 = nI j := by rw [ej]; exact lN_i j
      have e6 : t.2.1 = (nI j).toInt64 := by rw [ej, nI_l (by omega)]
      rw [ed, ei, eg, er, e6]
      exact ⟨hR.drift, hM.drift hj2, hz, fun i hi => by rw [upL_ne (by omega)]; exact h3 i hi, hr, hl⟩
    · rw [t1] at u; exact absurd u (by decide)
    · rw [t1] at u; exact absurd u (by decide)
  · rcases hI with ⟨u, -⟩ | ⟨-, ⟨j, ej, hj, eg⟩, er⟩ | ⟨u, -⟩
    · rw [t1] at u; exact absurd u (by decide)
    · have ed : dItem s t = ((dHear s.1.1 t.2.1.toInt32 t.2.2.1 t.2.2.2.1 0, s.1.2), s.2) := by
        unfold dItem
        rw [if_neg (by rw [t1]; decide), if_pos t1]
      rw [ed, ej, eg, er]
      have hh := RS.hear (g := pM3 g j t.2.2.1 t.2.2.2.1) (a := t.2.2.1) (b := t.2.2.2.1) hj hw hM hR (by unfold pM3; rw [upL_ne (by omega), upL_ne (by omega), upL_eq]) (by unfold pM3; rw [upL_ne (by omega), upL_eq]) (by unfold pM3; rw [upL_eq]) (by unfold pM3; rw [upL_ne (by omega), upL_ne (by omega), upL_ne (by omega), h3 j hj, hz.2.2]; decide) (fun u hu => by unfold pM3; rw [upL_ne (by omega), upL_ne (by omega), upL_ne (by omega)])
      rw [hz.2.2] at hh
      exact ⟨hh, hM.hear hj rfl ok, hz, fun i hi => by
        unfold pM3
        rw [upL_ne (by omega), upL_ne (by omega), upL_ne (by omega)]
        exact h3 i hi, hr, hl⟩
    · rw [t1] at u; exact absurd u (by decide)
  · rcases hI with ⟨u, -⟩ | ⟨u, -⟩ | ⟨-, eg, er⟩
    · rw [t1] at u; exact absurd u (by decide)
    · rw [t1] at u; exact absurd u (by decide)
    · have ed : dItem s t = (s.1, t.2.1, t.2.2.1, t.2.2.2.1, t.2.2.2.2) := by
        unfold dItem
        rw [if_neg (by rw [t1]; decide), if_neg (by rw [t1]; decide)]
      rw [ed, eg, er]
      exact ⟨hR, hM, hz, h3, pL4_at _ _ _ _ _, ok⟩
theorem l_text {E : pm_E} {Q : pm_Q} {T : zT} {y : zD} {m : zN} {n : Nat} (hX : TX T m n) : ∀ (k p : Nat) (s : zS × zL) (g r : Nat → Int64) (o1 : Option Value), n ≤ p + 3 * k → p ≤ n → MR s g r → (∀ a g' r', (pFault (ch T) n k p = -4 → MR (dItems (ch T) n k p s) g' r') → Q (some (.int (pFault (ch T) n k p))) (mkH y (tQ m a g' r'))) → Sm E n_X9_readText 9 ([some (.ref 92), o1], [], mkH y (tQ m (nI p) g r), 0, 0) Q := by
  have hX0 := hX
  obtain ⟨hn2, hz, hx, hx0⟩ := hX
  intro k
  induction k with
  | zero =>
    intro p s g r o1 hk hp hM h
    refine pm_lp (aX9_readText E) 100 9 rfl ?_
    conv => whnf
    refine ⟨fun _ => ?_, fun q => absurd (show mZ m ≤ nI p by rw [hz]; exact nI_le (by omega) (by omega)) q⟩
    conv => whnf
    exact ⟨trivial, h (nI p) g r (fun _ => hM)⟩
  | succ k ih =>
    intro p s g r o1 hk hp hM h
    refine pm_lp (aX9_readText E) 100 9 rfl ?_
    conv => whnf
    refine ⟨fun q => ?_, fun q => ?_⟩
    · have q' : mZ m ≤ nI p := q
      have hge : n ≤ p := (nI_leI (by omega) (by omega)).mp (by rw [← hz]; exact q')
      have e1 : pFault (ch T) n (k + 1) p = -4 := by rw [pFault, if_pos hge]
      have e2 : dItems (ch T) n (k + 1) p s = s := by rw [dItems, if_pos hge]
      rw [e1, e2] at h
      conv => whnf
      exact ⟨trivial, h (nI p) g r (fun _ => hM)⟩
    · have q' : ¬ mZ m ≤ nI p := q
      have hlt : p < n := by
        rcases Nat.lt_or_ge p n with z | z
        · exact z
        · exact absurd (show mZ m ≤ nI p by rw [hz]; exact nI_le z (by omega)) q'
      conv => whnf
      refine ⟨trivial, m_item hX0 hlt (fun q t e hq g' r' hI => ?_) (fun e p' g' r' hp' => ?_)⟩
      · have e1 : pFault (ch T) n (k + 1) p = pFault (ch T) n k q := by rw [pFault, if_neg (by omega), e]
        have e2 : dItems (ch T) n (k + 1) p s = dItems (ch T) n k q (dItem s t) := by rw [dItems, if_neg (by omega), e]
        rw [e1, e2] at h
        have hge := pItem_ge e
        conv => whnf
        refine ⟨fun _ => ?_, fun z => absurd z (by decide)⟩
        conv => whnf
        refine ⟨trivial, ?_⟩
        exact ih q (dItem s t) g' r' _ (by omega) hq (hM.item (pItem_ok e) hI) h
      · have e1 : pFault (ch T) n (k + 1) p = nI p := by rw [pFault, if_neg (by omega), e]
        rw [e1] at h
        conv => whnf
        refine ⟨fun z => absurd rfl z, fun _ => ?_⟩
        conv => whnf
        exact ⟨trivial, h (nI p') g' r' (fun z => absurd (nI_pos (n := p) (by omega)) (by rw [z]; decide))⟩
theorem Inv.tx {k : Nat} {x : zD} {m : zN} (I : Inv k x m) : TX (xT x) m (xT x).2.toNatClampNeg := by
  obtain ⟨⟨n, hn, hn2, hc⟩, hz, hx⟩ := I.1
  have en : (xT x).2.toNatClampNeg = n := by rw [hn]; exact nI_clamp (by omega)
  rw [en] at hx ⊢
  refine ⟨hn2, by rw [hz, hn], fun j hj => ?_, fun j hj => ?_⟩
  · rw [hx j hj]
    unfold ch
    rw [en, if_pos hj]
  · unfold ch
    rw [en, if_neg (by omega)]
theorem m_text {E : pm_E} {Q : pm_Q} {x y : zD} {m : zN} {k : Nat} (I : Inv k x m) (h : ∀ a g' r', (dFault (xT x) = -4 → MR (dLaid (xT x) (xS x)) g' r') → Q (some (.int (dFault (xT x)))) (mkH y (tQ m a g' r'))) : Sm E n_X9_readText 0 (pl_entry 2 [.ref 92], [], mkH y m, 0, 0) Q := by
  have hX := I.tx
  have hn := hX.1
  refine pm_go (aX9_readText E) 100 rfl ?_
  conv => whnf
  refine ⟨trivial, m_begin (fun g' hg => ?_)⟩
  conv => whnf
  refine ⟨trivial, ?_⟩
  exact l_text hX 200 0 (dClear (xS x), 1000, 1, 100, 0) g' (pL4 (mR m) 1000 1 100 0) none (by omega) (by omega) (MR.begin hg) h
theorem m_fault {E : pm_E} {Q : pm_Q} {x y : zD} {m : zN} {k : Nat} (I : Inv k x m) (h : ∀ m', Inv k x m' → Q (some (.int (dFault (xT x)))) (mkH y m')) : Sm E n_X9_fault 0 (pl_entry 1 [.ref 92], [], mkH y m, 0, 0) Q := by
  refine pm_go (aX9_fault E) 100 rfl ?_
  conv => whnf
  refine ⟨trivial, m_text I (fun a g' r' _ => ?_)⟩
  conv => whnf
  exact ⟨trivial, h (tQ m a g' r') I⟩
def tK (m : zN) (f l : Nat → Int64) : zN := (f, m.2.1, m.2.2.1, m.2.2.2.1, m.2.2.2.2.1, m.2.2.2.2.2.1, m.2.2.2.2.2.2.1, m.2.2.2.2.2.2.2.1, l, m.2.2.2.2.2.2.2.2.2)
def tK0 (m : zN) (f l : Nat → Int64) : zN := (f, m.2.1, 0, m.2.2.2.1, m.2.2.2.2.1, m.2.2.2.2.2.1, m.2.2.2.2.2.2.1, m.2.2.2.2.2.2.2.1, l, m.2.2.2.2.2.2.2.2.2)
theorem l_take2 {E : pm_E} {Q : pm_Q} {y : zD} {m : zN} {f : Nat → Int64} (h : ∀ l, (∀ t, t < 4 → l t = mR m t) → Q none (mkH y (tK0 m f l))) : ∀ (n i : Nat) (l : Nat → Int64), i + n = 4 → (∀ t, t < i → l t = mR m t) → Sm E n_X9_take 28 ([some (.ref 92), some (.int (nI i))], [], mkH y (tK m f l), 0, 0) Q := by
  intro n
  induction n with
  | zero =>
    intro i l hi hl
    obtain rfl : i = 4 := by omega
    refine pm_lp (aX9_take E) 100 28 rfl ?_
    conv => whnf
    refine ⟨fun _ => ?_, fun q => absurd (show (4 : Int32) ≤ nI 4 by decide) q⟩
    conv => whnf
    refine ⟨trivial, ?_⟩
    exact h l hl
  | succ n ih =>
    intro i l hi hl
    have c1 : (nI i).toNatClampNeg = i := cl (by omega)
    have nx := ih (i + 1) (vp_updL l (nI i).toNatClampNeg (mR m (nI i).toNatClampNeg)) (by omega) (fun t ht => by
      rw [c1]
      by_cases q : t = i
      · rw [q, upL_eq]
      · rw [upL_ne q, hl t (by omega)])
    rw [nI_succ] at nx
    refine pm_lp (aX9_take E) 100 28 rfl ?_
    conv => whnf
    refine ⟨fun q => absurd (show nI 4 ≤ nI i from q) (nI_ge (by omega) (by decide)), fun _ => ?_⟩
    conv => whnf
    refine ⟨inA (by omega) (by decide), ?_⟩
    conv => whnf
    refine ⟨inA (by omega) (by decide), ?_⟩
    conv => whnf
    refine ⟨trivial, ?_⟩
    exact nx
theorem l_take1 {E : pm_E} {Q : pm_Q} {y : zD} {m : zN} (h : ∀ f l, (∀ t, t < 108 → f t = mM m t) → (∀ t, t < 4 → l t = mR m t) → Q none (mkH y (tK0 m f l))) : ∀ (n i : Nat) (f : Nat → Int64), i + n = 108 → (∀ t, t < i → f t = mM m t) → Sm E n_X9_take 2 ([some (.ref 92), some (.int (nI i))], [], mkH y (tN m f), 0, 0) Q := by
  intro n
  induction n with
  | zero =>
    intro i f hi hf
    obtain rfl : i = 108 := by omega
    refine pm_lp (aX9_take E) 100 2 rfl ?_
    conv => whnf
    refine ⟨fun _ => ?_, fun q => absurd (show (108 : Int32) ≤ nI 108 by decide) q⟩
    conv => whnf
    refine ⟨trivial, ?_⟩
    exact l_take2 (m := m) (f := f) (fun l hl => h f l hf hl) 4 0 (mL m) (by omega) (fun t ht => absurd ht (Nat.not_lt_zero _))
  | succ n ih =>
    intro i f hi hf
    have c1 : (nI i).toNatClampNeg = i := cl (by omega)
    have nx := ih (i + 1) (vp_updL f (nI i).toNatClampNeg (mM m (nI i).toNatClampNeg)) (by omega) (fun t ht => by
      rw [c1]
      by_cases q : t = i
      · rw [q, upL_eq]
      · rw [upL_ne q, hf t (by omega)])
    rw [nI_succ] at nx
    refine pm_lp (aX9_take E) 100 2 rfl ?_
    conv => whnf
    refine ⟨fun q => absurd (show nI 108 ≤ nI i from q) (nI_ge (by omega) (by decide)), fun _ => ?_⟩
    conv => whnf
    refine ⟨inA (by omega) (by decide), ?_⟩
    conv => whnf
    refine ⟨inA (by omega) (by decide), ?_⟩
    conv => whnf
    refine ⟨trivial, ?_⟩
    exact nx
theorem m_take {E : pm_E} {Q : pm_Q} {y : zD} {m : zN} (h : ∀ f l, (∀ t, t < 108 → f t = mM m t) → (∀ t, t < 4 → l t = mR m t) → Q none (mkH y (tK0 m f l))) : Sm E n_X9_take 0 (pl_entry 2 [.ref 92], [], mkH y m, 0, 0) Q := by
  refine pm_go (aX9_take E) 100 rfl ?_
  conv => whnf
  refine ⟨trivial, ?_⟩
  exact l_take1 (m := m) h 108 0 (mN m) (by omega) (fun t ht => absurd ht (Nat.not_lt_zero _))
theorem m_lay {E : pm_E} {Q : pm_Q} {x y : zD} {m : zN} {k : Nat} (I : Inv k x m) (h : ∀ m', Inv (k + 1) (dLay x).2 m' → Q (some (.int (dLay x).1)) (mkH y m')) : Sm E n_X9_lay 0 (pl_entry 1 [.ref 92], [], mkH y m, 0, 0) Q := by
  refine pm_go (aX9_lay E) 100 rfl ?_
  conv => whnf
  refine ⟨trivial, m_text I (fun a g' r' hM => ?_)⟩
  conv => whnf
  refine ⟨fun q => ?_, fun q => ?_⟩
  · have e : dLay x = (nHd (xS (dLays x)).1, dLays x) := if_pos q
    rw [e] at h
    have hM := hM q
    conv => whnf
    refine ⟨trivial, m_take (m := tQ m a g' r') (fun f l hf hl => ?_)⟩
    have hR : RS (dLaid (xT x) (xS x)).1 f := hM.1.congr (hM.wf (k := 0)) hf
    conv => whnf
    refine ⟨trivial, m_many (m := tK0 (tQ m a g' r') f l) (S := (dLaid (xT x) (xS x)).1) (k := 0) (loc := 0) hM.2.1 hR ?_⟩
    conv => whnf
    refine ⟨trivial, ?_⟩
    obtain ⟨r0, r1, r2, r3⟩ := hM.2.2.2.2.1
    exact h (tK0 (tQ m a g' r') f l) ⟨I.1, ⟨⟨(hl 0 (by omega)).trans r0, (hl 1 (by omega)).trans r1, (hl 2 (by omega)).trans r2, (hl 3 (by omega)).trans r3⟩, hM.2.2.2.2.2⟩, hR, hM.wf, PR.none I.2.2.2.2.ok⟩
  · have e : dLay x = (-2, x) := if_neg q
    rw [e] at h
    conv => whnf
    exact ⟨trivial, h (tQ m a g' r') I.mono⟩
