/-! ===== the reference: go ===== -/
theorem m_close {E : pm_E} {Q : pm_Q} {y : zD} {m : zN} {k : Nat} {S : zS} (hW : WF k S) (hR : RS S (mN m)) (hk : k ≤ 512) (h : ∀ F' f', RS (S.1, dFinish S, S.2.2) f' → WC (dFinish S) → Q (some (.int (cDn (dFinish S) - cDn S.2.1))) (mkH y (tN (tF m F') f'))) : Sm E n_X9_closeOpen 0 (pl_entry 5 [.ref 92], [], mkH y m, 0, 0) Q := by
  have hC := hW.1
  obtain ⟨loc, hloc, hWM⟩ := hW.2
  have h7 : loc ≤ 5000 * k := by obtain ⟨dr, w1, w2, a1, a2, a3, a4, a5, a6, a7, a8⟩ := hWM; exact a7
  have hC' := hC
  obtain ⟨d, s, g1, g2, g3, g4, -⟩ := hC'
  obtain ⟨d', a1, a2, a3, a4⟩ := dFinish_char hC g3 g4 g2 g1
  have hWC : WC (dFinish S) := by rw [a3]; exact hC.fin g3 g4 g2 a1 a2 ⟨loc, by omega, hloc⟩
  have eN : cDn (dFinish S) - cDn S.2.1 = nI (d' - d) := by
    rw [a3, g4]
    exact nI_sub a1
  refine pm_go (aX9_closeOpen E) 100 rfl ?_
  conv => whnf
  refine ⟨trivial, m_open hC hR ?_⟩
  conv => whnf
  refine ⟨fun q => ?_, fun q => ?_⟩
  · conv => whnf
    refine ⟨inA (n := 0) (by decide) (by decide), ?_⟩
    conv => whnf
    refine ⟨trivial, m_findI hW hR hk (fun F' hF => ?_)⟩
    conv => whnf
    refine ⟨trivial, ?_⟩
    have nx := l_close (E := E) (Q := Q) (y := y) (m := m) hW g3 g4 g2 a1 a2 hF a4 (fun f' hf => by
      have hh := h F' f' (by rw [a3]; exact hf) hWC
      rw [eN] at hh
      exact hh) s 0 d (mN m) none none (by omega) (Nat.le_refl _) a1 (fun _ => rfl) (fun u v => by omega) (fun u => by omega) (by rw [CF_self g4]; exact hR)
    rw [Nat.sub_self] at nx
    exact nx
  · have q' : cSz S.2.1 - cDn S.2.1 = 0 := q
    have e : dFinish S = S.2.1 := by
      unfold dFinish
      rw [if_pos q']
    rw [e] at h
    have hh := h (mF m) (mN m) hR hC
    rw [Int32.sub_self] at hh
    conv => whnf
    exact ⟨trivial, hh⟩
theorem RS.tick {S : zS} {f : Nat → Int64} {loc : Nat} (h : RS S f) (hl : S.2.2 = nI loc) (hl2 : loc < 2000000000) : RS (S.1, S.2.1, S.2.2 + 1) (vp_updL f 0 (f 0 + 1)) := by
  obtain ⟨⟨e0, e1, e2, e3⟩, h4, h5⟩ := h
  have e : f 0 + 1 = (S.2.2 + 1).toInt64 := by
    rw [e0, hl, nI_1]
    refine Int64.toInt_inj.mp ?_
    have t0 : (nI loc).toInt64.toInt = loc := by rw [Int32.toInt_toInt64, nI_toInt (by omega)]
    rw [i64_add (by rw [t0, show (1 : Int64).toInt = 1 by decide]; omega) (by rw [t0, show (1 : Int64).toInt = 1 by decide]; omega), t0, Int32.toInt_toInt64, nI_toInt (by omega), show (1 : Int64).toInt = 1 by decide]
    omega
  refine ⟨⟨by rw [upL_eq]; exact e, by rw [upL_ne (by omega)]; exact e1, by rw [upL_ne (by omega)]; exact e2, by rw [upL_ne (by omega)]; exact e3⟩, fun j hj => ?_, fun c hc => ?_⟩
  · rw [upL_ne (by omega), upL_ne (by omega), upL_ne (by omega), upL_ne (by omega)]
    exact h4 j hj
  · rw [upL_ne (by omega), upL_ne (by omega), upL_ne (by omega), upL_ne (by omega), upL_ne (by omega)]
    exact h5 c hc
theorem WM.later {k loc l2 : Nat} {M : zM} (h : WM k M loc) (h1 : loc ≤ l2) (h2 : l2 ≤ 5000 * k) : WM k M l2 := by
  obtain ⟨dr, w1, w2, a1, a2, a3, a4, a5, a6, a7, a8⟩ := h
  exact ⟨dr, w1, w2, a1, a2, a3, a4, a5, a6, h2, fun i hi hb => by
    obtain ⟨b1, u, b2, b3⟩ := a8 i hi hb
    exact ⟨b1, u, by omega, b3⟩⟩
theorem i32_cyc (a b c : Int32) : (a - c) + (b - a) = b - c := by
  rw [Int32.sub_eq_add_neg, Int32.sub_eq_add_neg, Int32.sub_eq_add_neg, Int32.add_comm a, Int32.add_assoc, Int32.add_comm a, Int32.add_assoc, Int32.add_left_neg, Int32.add_zero, Int32.add_comm]
theorem l_goM {E : pm_E} {Q : pm_Q} {y : zD} {m : zN} {k nn : Nat} {D : Int32} (hk : k ≤ 512) (hnn : nn ≤ 5000) (v : Int32) (hv : v = nI nn) : ∀ (n i : Nat) (S : zS) (F : zF) (f : Nat → Int64) (loc : Nat), i + n = nn → S.2.2 = nI loc → loc + n ≤ 5000 * k → WC S.2.1 → WM k S.1 loc → RS S f → (∀ F' f', RS (dTicks n S) f' → WF k (dTicks n S) → Q (some (.int (cDn (dTicks n S).2.1 - D))) (mkH y (tN (tF m F') f'))) → Sm E n_X9_go 22 ([some (.ref 92), some (.int v), some (.int (cDn S.2.1 - D)), some (.int (nI i))], [], mkH y (tN (tF m F) f), 0, 0) Q := by
  intro n
  induction n with
  | zero =>
    intro i S F f loc hi hl hb hC hM hR h
    obtain rfl : i = nn := by omega
    refine pm_lp (aX9_go E) 100 22 rfl ?_
    conv => whnf
    refine ⟨fun _ => ?_, fun q => absurd (show v ≤ nI i by rw [hv]; exact Int32.le_refl _) q⟩
    conv => whnf
    exact ⟨trivial, h F f hR ⟨hC, loc, hl, hM⟩⟩
  | succ n ih =>
    intro i S F f loc hi hl hb hC hM hR h
    have hR1 := hR.tick hl (by omega)
    have hM1 := hM.later (l2 := loc + 1) (by omega) (by omega)
    have hl1 : S.2.2 + 1 = nI (loc + 1) := by rw [hl, nI_1]
    refine pm_lp (aX9_go E) 100 22 rfl ?_
    conv => whnf
    refine ⟨fun q => absurd (show v ≤ nI i from q) (by rw [hv]; exact nI_ge (by omega) (by omega)), fun _ => ?_⟩
    conv => whnf
    refine ⟨inA (n := 0) (by decide) (by decide), ?_⟩
    conv => whnf
    refine ⟨inA (n := 0) (by decide) (by decide), ?_⟩
    conv => whnf
    refine ⟨trivial, m_close (m := tN (tF m F) (vp_updL f 0 (f 0 + 1))) (S := (S.1, S.2.1, S.2.2 + 1)) (k := k) ⟨hC, loc + 1, hl1, hM1⟩ hR1 hk (fun F' f' hR2 hC2 => ?_)⟩
    conv => whnf
    refine ⟨trivial, ?_⟩
    have nx := ih (i + 1) (dTick S) F' f' (loc + 1) (by omega) hl1 (by omega) hC2 hM1 hR2 h
    rw [nI_succ, ← i32_cyc (cDn S.2.1)] at nx
    exact nx
theorem n5000 {n : Int32} : (1 ≤ n.toInt64 ∧ n.toInt64 ≤ 5000) ↔ ¬ (n < 1 ∨ 5000 < n) := by
  rw [show (1 : Int64) = (1 : Int32).toInt64 by decide, show (5000 : Int64) = (5000 : Int32).toInt64 by decide, t64_le, t64_le, not_or, Int32.not_lt, Int32.not_lt]
theorem m_go {E : pm_E} {Q : pm_Q} {x y : zD} {m : zN} {k : Nat} {n : Int32} (I : Inv k x m) (hk : k + 1 ≤ 512) (h : ∀ m', Inv (k + 1) (dGo x n).2 m' → Q (some (.int (dGo x n).1)) (mkH y m')) : Sm E n_X9_go 0 (pl_entry 4 [.ref 92, .int n], [], mkH y m, 0, 0) Q := by
  refine pm_go (aX9_go E) 100 rfl ?_
  conv => whnf
  refine ⟨trivial, m_within (fun q => ?_) (fun q => ?_)⟩
  · have q' := n5000.mp q
    have e : dGo x n = _ := if_neg q'
    rw [e] at h
    obtain ⟨nn, hnn, en⟩ := nI_of2 (x := n) (M := 5000) (n := 5000) (by decide) (fun z => q' (Or.inl (Int32.lt_trans z (by decide)))) (Int32.not_lt.mp (fun z => q' (Or.inr z)))
    obtain ⟨hC, loc, hl, hWM⟩ := I.2.2.2.1
    have h7 : loc ≤ 5000 * k := by obtain ⟨dr, w1, w2, a1, a2, a3, a4, a5, a6, a7, a8⟩ := hWM; exact a7
    have cn : n.toNatClampNeg = nn := by rw [en]; exact nI_clamp (by omega)
    rw [cn] at h
    conv => whnf
    refine ⟨fun _ => ?_, fun z => absurd z (by decide)⟩
    conv => whnf
    refine ⟨trivial, m_note I.2.2.2.2 I.2.2.2.1 I.2.2.1 (fun f' K' hP => ?_)⟩
    conv => whnf
    refine ⟨trivial, ?_⟩
    have nx := l_goM (E := E) (Q := Q) (y := y) (m := tP m f' K') (k := k + 1) (D := cDn (xC x)) hk hnn n en nn 0 (xS x) (mF m) (mN m) loc (by omega) hl (by omega) hC hWM.mono I.2.2.1 (fun F' g' hg hw => h (tN (tF (tP m f' K') F') g') ⟨I.1, I.2.1, hg, hw, hP.mono⟩)
    rw [Int32.sub_self] at nx
    exact nx
  · have e : dGo x n = (-1, x) := if_pos (Classical.not_not.mp (fun z => q (n5000.mpr z)))
    rw [e] at h
    conv => whnf
    refine ⟨fun z => absurd rfl z, fun _ => ?_⟩
    conv => whnf
    exact ⟨trivial, h m I.mono⟩
