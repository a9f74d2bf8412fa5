/-! ===== the reference: what is kept of the past, and undone ===== -/
theorem WF.sz {k : Nat} {S : zS} (h : WF k S) : ∃ s : Nat, s ≤ 16 ∧ cSz S.2.1 = nI s ∧ (cSz S.2.1).toNatClampNeg = s := by
  obtain ⟨⟨d, s, -, hs, e, -⟩, -⟩ := h
  exact ⟨s, hs, e, by rw [e]; exact nI_clamp (by omega)⟩
theorem RS.congr {k : Nat} {S : zS} {f g : Nat → Int64} (hC : WF k S) (h : RS S f) (e : ∀ t, t < 108 → g t = f t) : RS S g := by
  obtain ⟨s, hs, -, hc⟩ := hC.sz
  obtain ⟨⟨h0, h1, h2, h3⟩, h4, h5⟩ := h
  refine ⟨⟨by rw [e 0 (by omega)]; exact h0, by rw [e 1 (by omega)]; exact h1, by rw [e 2 (by omega)]; exact h2, by rw [e 3 (by omega)]; exact h3⟩, fun i hi => ?_, fun c hcc => ?_⟩
  · rw [e (4 + 4 * i) (by omega), e (4 + 4 * i + 1) (by omega), e (4 + 4 * i + 2) (by omega), e (4 + 4 * i + 3) (by omega)]
    exact h4 i hi
  · have h6 := h5 c hcc
    rw [hc] at hcc
    rw [e (28 + 5 * c) (by omega), e (28 + 5 * c + 1) (by omega), e (28 + 5 * c + 2) (by omega), e (28 + 5 * c + 3) (by omega), e (28 + 5 * c + 4) (by omega)]
    exact h6
theorem WM.mono {k : Nat} {M : zM} {loc : Nat} (h : WM k M loc) : WM (k + 1) M loc := by
  obtain ⟨dr, w1, w2, a1, a2, a3, a4, a5, a6, a7, a8⟩ := h
  exact ⟨dr, w1, w2, a1, a2, a3, a4, a5, a6, by omega, a8⟩
theorem WF.mono {k : Nat} {S : zS} (h : WF k S) : WF (k + 1) S := by
  obtain ⟨h1, loc, h2, h3⟩ := h
  exact ⟨h1, loc, h2, h3.mono⟩
def PR (k : Nat) (P : zP) (f : Nat → Int64) (K : Int32) : Prop := ∃ i c : Nat, i < 6 ∧ c ≤ 6 ∧ P.2.1 = nI i ∧ P.2.2 = nI c ∧ K = nI c ∧ ∀ j, j < c → WF k (P.1 ((i + 6 - c + j) % 6)) ∧ RS (P.1 ((i + 6 - c + j) % 6)) (fun t => f (108 * j + t))
theorem PR.mono {k : Nat} {P : zP} {f : Nat → Int64} {K : Int32} (h : PR k P f K) : PR (k + 1) P f K := by
  obtain ⟨i, c, h1, h2, h3, h4, h5, h6⟩ := h
  exact ⟨i, c, h1, h2, h3, h4, h5, fun j hj => ⟨(h6 j hj).1.mono, (h6 j hj).2⟩⟩
theorem PR.ok {k : Nat} {P : zP} {f : Nat → Int64} {K : Int32} (h : PR k P f K) : okP P := by
  obtain ⟨i, c, h1, h2, h3, h4, h5, h6⟩ := h
  exact ⟨i, h1, h3⟩
theorem PR.none {k : Nat} {P : zP} {f : Nat → Int64} (h : okP P) : PR k (P.1, P.2.1, 0) f 0 := by
  obtain ⟨i, h1, h3⟩ := h
  exact ⟨i, 0, h1, by omega, h3, rfl, rfl, fun j hj => absurd hj (Nat.not_lt_zero _)⟩
theorem PR.keep {k i c : Nat} {P : zP} {S : zS} {f g : Nat → Int64} {d : Nat} (hi : i < 6) (hc : c ≤ 6) (h1 : P.2.1 = nI i) (h2 : P.2.2 = nI c) (h6 : ∀ j, j < c → WF k (P.1 ((i + 6 - c + j) % 6)) ∧ RS (P.1 ((i + 6 - c + j) % 6)) (fun t => f (108 * j + t))) (hS : WF k S) (hR : ∀ g' : Nat → Int64, (∀ t, t < 108 → g' t = g (108 * d + t)) → RS S g') (hd : d = if c = 6 then 5 else c) (hg : ∀ j t, j < d → t < 108 → g (108 * j + t) = f (108 * (if c = 6 then j + 1 else j) + t)) : PR k (dKp P S) g (nI d + 1) := by
  have ci : P.2.1.toNatClampNeg = i := by rw [h1]; exact cl (by omega)
  have eK : (dKp P S).2.2 = nI (d + 1) := by
    show (if 6 < P.2.2 + 1 then (6 : Int32) else P.2.2 + 1) = _
    rw [h2, ← nI_succ]
    by_cases q : c = 6
    · rw [if_pos (show (6 : Int32) < nI (c + 1) by rw [q]; decide), hd, if_pos q]; rfl
    · rw [if_neg (show ¬ (6 : Int32) < nI (c + 1) from fun z => by have := (nI_ltI (a := 6) (by omega) (by omega)).mp z; omega), hd, if_neg q]
  refine ⟨(i + 1) % 6, d + 1, by omega, by split at hd <;> omega, by show nI ((P.2.1.toNatClampNeg + 1) % 6) = _; rw [ci], eK, by rw [nI_succ], fun j hj => ?_⟩
  show WF k (upS P.1 P.2.1.toNatClampNeg S _) ∧ RS (upS P.1 P.2.1.toNatClampNeg S _) _
  rw [ci]
  unfold upS
  by_cases q : j = d
  · have e : ((i + 1) % 6 + 6 - (d + 1) + j) % 6 = i := by split at hd <;> omega
    rw [if_pos e]
    exact ⟨hS, hR _ (fun t _ => by rw [q])⟩
  · have e : ¬ ((i + 1) % 6 + 6 - (d + 1) + j) % 6 = i := by split at hd <;> omega
    rw [if_neg e]
    by_cases q6 : c = 6
    · rw [if_pos q6] at hd
      have e2 : ((i + 1) % 6 + 6 - (d + 1) + j) % 6 = (i + 6 - c + (j + 1)) % 6 := by omega
      rw [e2]
      obtain ⟨a, b⟩ := h6 (j + 1) (by omega)
      refine ⟨a, b.congr a (fun t ht => ?_)⟩
      have := hg j t (by omega) ht
      rw [if_pos q6] at this
      exact this
    · rw [if_neg q6] at hd
      have e2 : ((i + 1) % 6 + 6 - (d + 1) + j) % 6 = (i + 6 - c + j) % 6 := by omega
      rw [e2]
      obtain ⟨a, b⟩ := h6 j (by omega)
      refine ⟨a, b.congr a (fun t ht => ?_)⟩
      have := hg j t (by omega) ht
      rw [if_neg q6] at this
      exact this
theorem l_sh {E : pm_E} {Q : pm_Q} {y : zD} {m : zN} {f0 : Nat → Int64} {K : Int32} (h : ∀ f', (∀ t, f' t = if t < 540 then f0 (t + 108) else f0 t) → Sm E n_X9_note 51 ([some (.ref 92), some (.int 0)], [], mkH y (tP m f' (K - 1)), 0, 0) Q) : ∀ (n i : Nat) (f : Nat → Int64), i + n = 540 → (∀ t, f t = if t < i then f0 (t + 108) else f0 t) → Sm E n_X9_note 11 ([some (.ref 92), some (.int (nI i))], [], mkH y (tP m f K), 0, 0) Q := by
  intro n
  induction n with
  | zero =>
    intro i f hi hf
    obtain rfl : i = 540 := by omega
    refine pm_lp (aX9_note E) 100 11 rfl ?_
    conv => whnf
    refine ⟨fun _ => ?_, fun q => absurd (show (540 : Int32) ≤ nI 540 by decide) q⟩
    conv => whnf
    refine ⟨trivial, ?_⟩
    exact h f hf
  | succ n ih =>
    intro i f hi hf
    have c1 : (nI i).toNatClampNeg = i := cl (by omega)
    have e2 : nI i + 108 = nI (i + 108) := nI_add i 108
    have c2 : (nI i + 108).toNatClampNeg = i + 108 := by rw [e2]; exact cl (by omega)
    have nx := ih (i + 1) (vp_updL f (nI i).toNatClampNeg (f (nI i + 108).toNatClampNeg)) (by omega) (fun t => by
      rw [c1, c2]
      unfold vp_updL
      by_cases q : t = i
      · rw [if_pos q, if_pos (by omega), hf, if_neg (by omega), q]
      · rw [if_neg q, hf]
        by_cases q2 : t < i
        · rw [if_pos q2, if_pos (by omega)]
        · rw [if_neg q2, if_neg (by omega)])
    rw [nI_succ] at nx
    refine pm_lp (aX9_note E) 100 11 rfl ?_
    conv => whnf
    refine ⟨fun q => absurd (show nI 540 ≤ nI i from q) (nI_ge (by omega) (by decide)), fun _ => ?_⟩
    conv => whnf
    refine ⟨by rw [e2]; exact inA (by omega) (by decide), ?_⟩
    conv => whnf
    refine ⟨inA (by omega) (by decide), ?_⟩
    conv => whnf
    refine ⟨trivial, ?_⟩
    exact nx
theorem l_cpn {E : pm_E} {Q : pm_Q} {y : zD} {m : zN} {f1 : Nat → Int64} {c : Nat} (hc : c < 6) (h : ∀ f', (∀ t, f' t = if 108 * c ≤ t ∧ t < 108 * c + 108 then mN m (t - 108 * c) else f1 t) → Q none (mkH y (tP m f' (nI c + 1)))) : ∀ (n i : Nat) (f : Nat → Int64), i + n = 108 → (∀ t, f t = if 108 * c ≤ t ∧ t < 108 * c + i then mN m (t - 108 * c) else f1 t) → Sm E n_X9_note 51 ([some (.ref 92), some (.int (nI i))], [], mkH y (tP m f (nI c)), 0, 0) Q := by
  intro n
  induction n with
  | zero =>
    intro i f hi hf
    obtain rfl : i = 108 := by omega
    refine pm_lp (aX9_note E) 100 51 rfl ?_
    conv => whnf
    refine ⟨fun _ => ?_, fun q => absurd (show (108 : Int32) ≤ nI 108 by decide) q⟩
    conv => whnf
    refine ⟨trivial, ?_⟩
    exact h f hf
  | succ n ih =>
    intro i f hi hf
    have c1 : (nI i).toNatClampNeg = i := cl (by omega)
    have e2 : 108 * nI c + nI i = nI (108 * c + i) := by rw [show (108 : Int32) = nI 108 from rfl, pk_mul, nI_add]
    have c2 : (108 * nI c + nI i).toNatClampNeg = 108 * c + i := by rw [e2]; exact cl (by omega)
    have nx := ih (i + 1) (vp_updL f (108 * nI c + nI i).toNatClampNeg (mN m (nI i).toNatClampNeg)) (by omega) (fun t => by
      rw [c1, c2]
      unfold vp_updL
      by_cases q : t = 108 * c + i
      · rw [if_pos q, if_pos (by omega), q, Nat.add_sub_cancel_left]
      · rw [if_neg q, hf]
        by_cases q2 : 108 * c ≤ t ∧ t < 108 * c + i
        · rw [if_pos q2, if_pos (by omega)]
        · rw [if_neg q2, if_neg (by omega)])
    rw [nI_succ] at nx
    refine pm_lp (aX9_note E) 100 51 rfl ?_
    conv => whnf
    refine ⟨fun q => absurd (show nI 108 ≤ nI i from q) (nI_ge (by omega) (by decide)), fun _ => ?_⟩
    conv => whnf
    refine ⟨inA (by omega) (by decide), ?_⟩
    conv => whnf
    refine ⟨by have := inA (n := 108 * c + i) (N := 648) (by omega) (by decide); rw [← e2] at this; exact this, ?_⟩
    conv => whnf
    refine ⟨trivial, ?_⟩
    exact nx
theorem m_note {E : pm_E} {Q : pm_Q} {y : zD} {m : zN} {k : Nat} {P : zP} {S : zS} (hP : PR k P (mP m) (mK m)) (hS : WF k S) (hR : RS S (mN m)) (h : ∀ f' K', PR k (dKp P S) f' K' → Q none (mkH y (tP m f' K'))) : Sm E n_X9_note 0 (pl_entry 2 [.ref 92], [], mkH y m, 0, 0) Q := by
  obtain ⟨i, c, hi, hc, h1, h2, h5, h6⟩ := hP
  have hR' : ∀ (d : Nat) (f' f1 : Nat → Int64), (∀ t, f' t = if 108 * d ≤ t ∧ t < 108 * d + 108 then mN m (t - 108 * d) else f1 t) → ∀ g' : Nat → Int64, (∀ t, t < 108 → g' t = f' (108 * d + t)) → RS S g' := fun d f' f1 hf g' hg => hR.congr hS (fun t ht => by rw [hg t ht, hf, if_pos (by omega), Nat.add_sub_cancel_left])
  refine pm_go (aX9_note E) 100 rfl ?_
  conv => whnf
  refine ⟨fun q => ?_, fun q => ?_⟩
  · have q' : ¬ mK m = 6 := q
    have nc : ¬ c = 6 := fun z => q' (by rw [h5, z]; rfl)
    conv => whnf
    refine ⟨trivial, ?_⟩
    have nx := l_cpn (E := E) (Q := Q) (y := y) (m := m) (f1 := mP m) (c := c) (by omega) (fun f' hf => h f' _ (PR.keep hi hc h1 h2 h6 hS (hR' c f' _ hf) (by rw [if_neg nc]) (fun j t hj ht => by rw [if_neg nc, hf, if_neg (by omega)]))) 108 0 (mP m) (by omega) (fun t => by rw [if_neg (by omega)])
    rw [← h5] at nx
    exact nx
  · have q' : mK m = 6 := q
    have nc : c = 6 := (nI_eq (b := 6) (by omega) (by omega)).mp (by rw [← h5]; exact q')
    conv => whnf
    refine ⟨trivial, ?_⟩
    refine l_sh (m := m) (f0 := mP m) (K := mK m) (fun f2 hf2 => ?_) 540 0 (mP m) (by omega) (fun t => by rw [if_neg (by omega)])
    have nx := l_cpn (E := E) (Q := Q) (y := y) (m := m) (f1 := f2) (c := 5) (by omega) (fun f' hf => h f' _ (PR.keep (d := 5) hi hc h1 h2 h6 hS (hR' 5 f' _ hf) (by rw [if_pos nc]) (fun j t hj ht => by rw [if_pos nc, hf, if_neg (by omega), hf2, if_pos (by omega)]; congr 1; omega))) 108 0 f2 (by omega) (fun t => by rw [if_neg (by omega)])
    have e5 : mK m - 1 = nI 5 := by rw [q']; decide
    rw [e5]
    exact nx
theorem l_un {E : pm_E} {Q : pm_Q} {y : zD} {m : zN} {c : Nat} (hc : c < 6) (hK : mK m = nI c) (h : ∀ g', (∀ t, t < 108 → g' t = mP m (108 * c + t)) → Q (some (.int (mK m))) (mkH y (tN m g'))) : ∀ (n i : Nat) (g : Nat → Int64), i + n = 108 → (∀ t, t < i → g t = mP m (108 * c + t)) → Sm E n_X9_undo 22 ([some (.ref 92), some (.int (nI i))], [], mkH y (tN m g), 0, 0) Q := by
  intro n
  induction n with
  | zero =>
    intro i g hi hg
    obtain rfl : i = 108 := by omega
    refine pm_lp (aX9_undo E) 100 22 rfl ?_
    conv => whnf
    refine ⟨fun _ => ?_, fun q => absurd (show (108 : Int32) ≤ nI 108 by decide) q⟩
    conv => whnf
    refine ⟨trivial, ?_⟩
    exact h g hg
  | succ n ih =>
    intro i g hi hg
    have c1 : (nI i).toNatClampNeg = i := cl (by omega)
    have e2 : 108 * mK m + nI i = nI (108 * c + i) := by rw [hK, show (108 : Int32) = nI 108 from rfl, pk_mul, nI_add]
    have c2 : (108 * mK m + nI i).toNatClampNeg = 108 * c + i := by rw [e2]; exact cl (by omega)
    have nx := ih (i + 1) (vp_updL g (nI i).toNatClampNeg (mP m (108 * mK m + nI i).toNatClampNeg)) (by omega) (fun t ht => by
      rw [c1, c2]
      unfold vp_updL
      by_cases q : t = i
      · rw [if_pos q, q]
      · rw [if_neg q, hg t (by omega)])
    rw [nI_succ] at nx
    refine pm_lp (aX9_undo E) 100 22 rfl ?_
    conv => whnf
    refine ⟨fun q => absurd (show nI 108 ≤ nI i from q) (nI_ge (by omega) (by decide)), fun _ => ?_⟩
    conv => whnf
    refine ⟨by have := inA (n := 108 * c + i) (N := 648) (by omega) (by decide); rw [← e2] at this; exact this, ?_⟩
    conv => whnf
    refine ⟨inA (by omega) (by decide), ?_⟩
    conv => whnf
    refine ⟨trivial, ?_⟩
    exact nx
/-- class and reference, behind k calls -/
def Inv (k : Nat) (x : zD) (m : zN) : Prop :=
  (okX (xT x) ∧ mZ m = (xT x).2 ∧ ∀ j, j < (xT x).2.toNatClampNeg → mX m j = (xT x).1 j) ∧
  ((mL m 0 = (xL x).1 ∧ mL m 1 = (xL x).2.1 ∧ mL m 2 = (xL x).2.2.1 ∧ mL m 3 = (xL x).2.2.2) ∧ okLeap (xL x).1 (xL x).2.1 (xL x).2.2.1 (xL x).2.2.2) ∧
  RS (xS x) (mN m) ∧ WF k (xS x) ∧ PR k (xP x) (mP m) (mK m)
theorem Inv.mono {k : Nat} {x : zD} {m : zN} (h : Inv k x m) : Inv (k + 1) x m := ⟨h.1, h.2.1, h.2.2.1, h.2.2.2.1.mono, h.2.2.2.2.mono⟩
theorem m_undo {E : pm_E} {Q : pm_Q} {x y : zD} {m : zN} {k : Nat} (I : Inv k x m) (h : ∀ m', Inv (k + 1) (dUndo x).2 m' → Q (some (.int (dUndo x).1)) (mkH y m')) : Sm E n_X9_undo 0 (pl_entry 2 [.ref 92], [], mkH y m, 0, 0) Q := by
  obtain ⟨i, c, hi, hc, h1, h2, h5, h6⟩ := I.2.2.2.2
  refine pm_go (aX9_undo E) 100 rfl ?_
  conv => whnf
  refine ⟨fun q => ?_, fun q => ?_⟩
  · have q' : ¬ mK m = 0 := q
    have c0 : ¬ c = 0 := fun z => q' (by rw [h5, z]; rfl)
    have e : dUndo x = ((xP x).2.2 - 1, sS (sP x ((xP x).1, nI (((xP x).2.1.toNatClampNeg + 5) % 6), (xP x).2.2 - 1)) ((xP x).1 (((xP x).2.1.toNatClampNeg + 5) % 6))) := by
      unfold dUndo
      rw [if_neg (by rw [h2, ← h5]; exact q')]
    obtain ⟨d, rfl⟩ : ∃ d, c = d + 1 := ⟨c - 1, by omega⟩
    have eK : mK m - 1 = nI d := by rw [h5]; exact nI_pred d
    rw [e] at h
    conv => whnf
    refine ⟨trivial, ?_⟩
    refine l_un (m := tP m (mP m) (mK m - 1)) (c := d) (by omega) eK (fun g' hg => ?_) 108 0 (mN m) (by omega) (fun t ht => absurd ht (Nat.not_lt_zero _))
    have hh := h (tN (tP m (mP m) (mK m - 1)) g') ?_
    · have e3 : (xP x).2.2 - 1 = mK m - 1 := by rw [h2, h5]
      rw [e3] at hh
      exact hh
    · have ci : (xP x).2.1.toNatClampNeg = i := by rw [h1]; exact cl (by omega)
      have e4 : (i + 6 - (d + 1) + d) % 6 = (i + 5) % 6 := by omega
      obtain ⟨a, b⟩ := h6 d (by omega)
      rw [e4] at a b
      refine ⟨I.1, I.2.1, ?_, ?_, ?_⟩
      · show RS ((xP x).1 (((xP x).2.1.toNatClampNeg + 5) % 6)) g'
        rw [ci]
        exact b.congr a hg
      · show WF (k + 1) ((xP x).1 (((xP x).2.1.toNatClampNeg + 5) % 6))
        rw [ci]
        exact a.mono
      · show PR (k + 1) ((xP x).1, nI (((xP x).2.1.toNatClampNeg + 5) % 6), (xP x).2.2 - 1) (mP m) (mK m - 1)
        refine ⟨(i + 5) % 6, d, by omega, by omega, by rw [ci], by rw [h2]; exact nI_pred d, eK, fun j hj => ?_⟩
        have e5 : ((i + 5) % 6 + 6 - d + j) % 6 = (i + 6 - (d + 1) + j) % 6 := by omega
        show WF (k + 1) ((xP x).1 _) ∧ RS ((xP x).1 _) _
        rw [e5]
        obtain ⟨a, b⟩ := h6 j (by omega)
        exact ⟨a.mono, b⟩
  · have q' : mK m = 0 := q
    have e : dUndo x = (-2, x) := by
      unfold dUndo
      rw [if_pos (by rw [h2, ← h5]; exact q')]
    rw [e] at h
    conv => whnf
    exact ⟨trivial, h m I.mono⟩
