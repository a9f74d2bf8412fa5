/-! ===== the reference: tell, strike, drift ===== -/
theorem t64_le {a b : Int32} : a.toInt64 ≤ b.toInt64 ↔ a ≤ b := by
  rw [Int64.le_iff_toInt_le, Int32.toInt_toInt64, Int32.toInt_toInt64, Int32.le_iff_toInt_le]
theorem t64_lt {a b : Int32} : a.toInt64 < b.toInt64 ↔ a < b := by
  rw [Int64.lt_iff_toInt_lt, Int32.toInt_toInt64, Int32.toInt_toInt64, Int32.lt_iff_toInt_lt]
theorem t64_inj {a b : Int32} : a.toInt64 = b.toInt64 ↔ a = b := by
  rw [← Int64.toInt_inj, Int32.toInt_toInt64, Int32.toInt_toInt64, Int32.toInt_inj]
theorem t64_back (a : Int32) : a.toInt64.toInt32 = a := Int32.toInt32_toInt64 a
theorem okM6 {i : Int32} : (0 ≤ i.toInt64 ∧ i.toInt64 ≤ 5) ↔ okM i := by
  show _ ↔ (0 ≤ i.toInt64 ∧ i.toInt64 < 6)
  rw [Int64.le_iff_toInt_le (y := 5), Int64.lt_iff_toInt_lt (y := 6), show (5 : Int64).toInt = 5 by decide, show (6 : Int64).toInt = 6 by decide]
  constructor <;> intro h <;> exact ⟨h.1, by have := h.2; omega⟩
theorem okM_nI {i : Int32} (h : okM i) : ∃ j : Nat, j < 6 ∧ i = nI j := by
  have h2 := okM6.mpr h
  obtain ⟨j, hj, e⟩ := nI_of2 (x := i) (M := 5) (n := 5) (by decide) (fun z => by
    have := t64_le.mp (show (0 : Int32).toInt64 ≤ i.toInt64 from h2.1)
    exact Int32.not_lt.mpr this z) (t64_le.mp (show i.toInt64 ≤ (5 : Int32).toInt64 from h2.2))
  exact ⟨j, by omega, e⟩
theorem z01 {z : Int32} : (0 ≤ z.toInt64 ∧ z.toInt64 ≤ 1) ↔ (0 ≤ z ∧ z ≤ 1) := by
  rw [show (0 : Int64) = (0 : Int32).toInt64 by decide, show (1 : Int64) = (1 : Int32).toInt64 by decide, t64_le, t64_le]
theorem upL_ne {f : Nat → Int64} {i t : Nat} {v : Int64} (h : ¬ t = i) : vp_updL f i v t = f t := if_neg h
theorem upL_eq {f : Nat → Int64} {i : Nat} {v : Int64} : vp_updL f i v i = v := if_pos rfl
theorem bitO : ∀ w, w < 64 → ∀ i, i < 6 → nI w ||| (1 <<< (nI i &&& 31)) = nI (w ||| 1 <<< i) ∧ w ||| 1 <<< i < 64 ∧ ∀ j, j < 6 → ((w ||| 1 <<< i).testBit j = true ↔ (w.testBit j = true ∨ j = i)) := by decide +kernel
theorem bitX : ∀ w, w < 64 → ∀ i, i < 6 → nI w ^^^ (1 <<< (nI i &&& 31)) = nI (w ^^^ 1 <<< i) ∧ w ^^^ 1 <<< i < 64 ∧ (nI w).toInt64 ^^^ (1 <<< ((nI i).toInt64 &&& 63)) = (nI (w ^^^ 1 <<< i)).toInt64 := by decide +kernel
theorem bitZ : ∀ w, w < 64 → ∀ i, i < 6 → ((nI w >>> (nI i &&& 31)) &&& 1 = 0 ↔ ¬ w.testBit i = true) := by decide +kernel
theorem RS.hear {k loc i : Nat} {S : zS} {f g : Nat → Int64} {a b : Int64} (hi : i < 6) (hW : WF k S) (hM : WM k S.1 loc) (h : RS S f) (g0 : g (4 + 4 * i) = 1) (g1 : g (4 + 4 * i + 1) = a) (g2 : g (4 + 4 * i + 2) = b) (g3 : g (4 + 4 * i + 3) = S.2.2.toInt64) (ge : ∀ t, t < 4 + 4 * i ∨ 4 + 4 * i + 3 < t → g t = f t) : RS (dHear S.1 (nI i) a b S.2.2, S.2) g := by
  obtain ⟨dr, w1, w2, -, -, h1, hw1, -, -, -, -⟩ := hM
  obtain ⟨s, hs, -, hc⟩ := hW.sz
  obtain ⟨⟨e0, e1, e2, e3⟩, h4, h5⟩ := h
  have ci : (nI i).toNatClampNeg = i := cl (by omega)
  refine ⟨⟨by rw [ge 0 (by omega)]; exact e0, by rw [ge 1 (by omega)]; exact e1, by rw [ge 2 (by omega)]; exact e2, by rw [ge 3 (by omega)]; exact e3⟩, fun j hj => ?_, fun c hcc => ?_⟩
  · have hb := bitO w1 hw1 i hi
    have h4 := h4 j hj
    show (g (4 + 4 * j) = if ((S.1.2.2.2.1 ||| (1 <<< (nI i &&& 31))) >>> (nI j &&& 31)) &&& 1 = 1 then 1 else 0) ∧ (((S.1.2.2.2.1 ||| (1 <<< (nI i &&& 31))) >>> (nI j &&& 31)) &&& 1 = 1 → g (4 + 4 * j + 1) = vp_updL S.1.1 (nI i).toNatClampNeg a j ∧ g (4 + 4 * j + 2) = vp_updL S.1.2.1 (nI i).toNatClampNeg b j ∧ g (4 + 4 * j + 3) = (upd S.1.2.2.1 (nI i).toNatClampNeg S.2.2 j).toInt64)
    rw [h1] at h4
    simp only [bit32 w1 hw1 j hj] at h4
    rw [h1, hb.1, ci]
    simp only [bit32 _ hb.2.1 j hj, hb.2.2 j hj]
    unfold vp_updL upd
    by_cases q : j = i
    · subst q
      rw [if_pos (Or.inr rfl), if_pos rfl, if_pos rfl, if_pos rfl]
      exact ⟨g0, fun _ => ⟨g1, g2, g3⟩⟩
    · rw [if_neg q, if_neg q, if_neg q, ge (4 + 4 * j) (by omega), ge (4 + 4 * j + 1) (by omega), ge (4 + 4 * j + 2) (by omega), ge (4 + 4 * j + 3) (by omega)]
      refine ⟨?_, fun z => h4.2 (z.resolve_right q)⟩
      rw [h4.1]
      by_cases z : w1.testBit j = true
      · rw [if_pos z, if_pos (Or.inl z)]
      · rw [if_neg z, if_neg (fun u => z (u.resolve_right q))]
  · have h6 := h5 c hcc
    rw [ge (28 + 5 * c) (by omega), ge (28 + 5 * c + 1) (by omega), ge (28 + 5 * c + 2) (by omega), ge (28 + 5 * c + 3) (by omega), ge (28 + 5 * c + 4) (by omega)]
    exact h6
theorem WM.hear {k loc i : Nat} {M : zM} {a b : Int64} {t : Int32} (hi : i < 6) (hM : WM k M loc) (ht : t = nI loc) (hab : okSpan a b) : WM k (dHear M (nI i) a b t) loc := by
  obtain ⟨dr, w1, w2, a1, a2, a3, a4, a5, a6, a7, a8⟩ := hM
  have ci : (nI i).toNatClampNeg = i := cl (by omega)
  have hb := bitO w1 a4 i hi
  refine ⟨dr, w1 ||| 1 <<< i, w2, a1, a2, ?_, hb.2.1, a5, a6, a7, fun j hj hjj => ?_⟩
  · show M.2.2.2.1 ||| (1 <<< (nI i &&& 31)) = _
    rw [a3]
    exact hb.1
  · show okSpan (vp_updL M.1 (nI i).toNatClampNeg a j) (vp_updL M.2.1 (nI i).toNatClampNeg b j) ∧ ∃ u : Nat, u ≤ loc ∧ upd M.2.2.1 (nI i).toNatClampNeg t j = nI u
    rw [ci]
    unfold vp_updL upd
    by_cases q : j = i
    · rw [if_pos q, if_pos q, if_pos q]
      exact ⟨hab, loc, Nat.le_refl _, ht⟩
    · rw [if_neg q, if_neg q, if_neg q]
      exact a8 j hj (((hb.2.2 j hj).mp hjj).resolve_right q)
theorem m_tell {E : pm_E} {Q : pm_Q} {x y : zD} {m : zN} {k : Nat} {i : Int32} {a b : Int64} (I : Inv k x m) (h : ∀ m', Inv (k + 1) (dTell x i a b).2 m' → Q (some (.int (dTell x i a b).1)) (mkH y m')) : Sm E n_X9_tell 0 (pl_entry 6 [.ref 92, .int i, .long a, .long b], [], mkH y m, 0, 0) Q := by
  have bad : ¬ (okM i ∧ okSpan a b) → Q (some (.int (-1))) (mkH y m) := fun z => by
    have e : dTell x i a b = (-1, x) := if_neg z
    rw [e] at h
    exact h m I.mono
  refine pm_go (aX9_tell E) 100 rfl ?_
  conv => whnf
  refine ⟨trivial, m_isMaster (fun q => ?_) (fun q => ?_)⟩
  · have hM := okM6.mp q
    conv => whnf
    refine ⟨fun z => absurd z (by decide), fun _ => ?_⟩
    conv => whnf
    refine ⟨trivial, m_within (fun q2 => ?_) (fun q2 => ?_)⟩
    · conv => whnf
      refine ⟨fun z => absurd z (by decide), fun _ => ?_⟩
      conv => whnf
      refine ⟨trivial, m_within (fun q3 => ?_) (fun q3 => ?_)⟩
      · conv => whnf
        refine ⟨fun _ => ?_, fun z => absurd z (by decide)⟩
        have hab : okSpan a b := ⟨q2.1, q3.1, q3.2⟩
        have e : dTell x i a b = _ := if_pos ⟨hM, hab⟩
        rw [e] at h
        obtain ⟨j, hj, rfl⟩ := okM_nI hM
        obtain ⟨hC, loc, hl, hWM⟩ := I.2.2.2.1
        have c0 : ((4 : Int32) + 4 * nI j).toNatClampNeg = 4 + 4 * j := by rw [ix4]; exact cl (by omega)
        have c1 : ((4 : Int32) + 4 * nI j + 1).toNatClampNeg = 4 + 4 * j + 1 := by rw [show (1 : Int32) = nI 1 from rfl, ix4k]; exact cl (by omega)
        have c2 : ((4 : Int32) + 4 * nI j + 2).toNatClampNeg = 4 + 4 * j + 2 := by rw [show (2 : Int32) = nI 2 from rfl, ix4k]; exact cl (by omega)
        have c3 : ((4 : Int32) + 4 * nI j + 3).toNatClampNeg = 4 + 4 * j + 3 := by rw [show (3 : Int32) = nI 3 from rfl, ix4k]; exact cl (by omega)
        conv => whnf
        refine ⟨trivial, m_note I.2.2.2.2 I.2.2.2.1 I.2.2.1 (fun f' K' hP => ?_)⟩
        conv => whnf
        refine ⟨by rw [ix4]; exact inA (by omega) (by decide), ?_⟩
        conv => whnf
        refine ⟨by rw [show (1 : Int32) = nI 1 from rfl, ix4k]; exact inA (by omega) (by decide), ?_⟩
        conv => whnf
        refine ⟨by rw [show (2 : Int32) = nI 2 from rfl, ix4k]; exact inA (by omega) (by decide), ?_⟩
        conv => whnf
        refine ⟨inA (n := 0) (by decide) (by decide), ?_⟩
        conv => whnf
        refine ⟨by rw [show (3 : Int32) = nI 3 from rfl, ix4k]; exact inA (by omega) (by decide), ?_⟩
        let g2 := vp_updL (vp_updL (vp_updL (mN m) ((4 : Int32) + 4 * nI j).toNatClampNeg 1) ((4 : Int32) + 4 * nI j + 1).toNatClampNeg a) ((4 : Int32) + 4 * nI j + 2).toNatClampNeg b
        have hg0 : g2 0 = (xS x).2.2.toInt64 := by
          show vp_updL (vp_updL (vp_updL (mN m) _ 1) _ a) _ b 0 = _
          rw [c0, c1, c2, upL_ne (by omega), upL_ne (by omega), upL_ne (by omega)]
          exact I.2.2.1.1.1
        have hR : RS (dHear (xS x).1 (nI j) a b (xS x).2.2, (xS x).2) (vp_updL g2 ((4 : Int32) + 4 * nI j + 3).toNatClampNeg (g2 0)) := by
          refine RS.hear hj I.2.2.2.1 hWM I.2.2.1 ?_ ?_ ?_ ?_ ?_
          · rw [c3, upL_ne (by omega)]
            show vp_updL (vp_updL (vp_updL (mN m) _ 1) _ a) _ b _ = _
            rw [c0, c1, c2, upL_ne (by omega), upL_ne (by omega), upL_eq]
          · rw [c3, upL_ne (by omega)]
            show vp_updL (vp_updL (vp_updL (mN m) _ 1) _ a) _ b _ = _
            rw [c0, c1, c2, upL_ne (by omega), upL_eq]
          · rw [c3, upL_ne (by omega)]
            show vp_updL (vp_updL (vp_updL (mN m) _ 1) _ a) _ b _ = _
            rw [c0, c1, c2, upL_eq]
          · rw [c3, upL_eq]
            exact hg0
          · intro t ht
            rw [c3, upL_ne (by omega)]
            show vp_updL (vp_updL (vp_updL (mN m) _ 1) _ a) _ b _ = _
            rw [c0, c1, c2, upL_ne (by omega), upL_ne (by omega), upL_ne (by omega)]
        have hW' := hWM.hear (a := a) (b := b) hj hl hab
        conv => whnf
        refine ⟨trivial, m_many (S := (dHear (xS x).1 (nI j) a b (xS x).2.2, (xS x).2)) (m := tN (tP m f' K') (vp_updL g2 ((4 : Int32) + 4 * nI j + 3).toNatClampNeg (g2 0))) hW' hR ?_⟩
        conv => whnf
        refine ⟨trivial, ?_⟩
        exact h (tN (tP m f' K') (vp_updL g2 ((4 : Int32) + 4 * nI j + 3).toNatClampNeg (g2 0))) ⟨I.1, I.2.1, hR, ⟨hC, loc, hl, hW'.mono⟩, hP.mono⟩
      · conv => whnf
        refine ⟨fun z => absurd rfl z, fun _ => ?_⟩
        conv => whnf
        exact ⟨trivial, bad (fun z => q3 ⟨z.2.2.1, z.2.2.2⟩)⟩
    · conv => whnf
      refine ⟨fun _ => ?_, fun z => absurd rfl z⟩
      conv => whnf
      exact ⟨trivial, bad (fun z => q2 ⟨z.2.1, Int64.le_trans z.2.2.1 z.2.2.2⟩)⟩
  · conv => whnf
    refine ⟨fun _ => ?_, fun z => absurd rfl z⟩
    conv => whnf
    exact ⟨trivial, bad (fun z => q (okM6.mpr z.1))⟩
theorem RS.struck {S : zS} {f : Nat → Int64} {w : Int32} (h : RS S f) : RS ((S.1.1, S.1.2.1, S.1.2.2.1, S.1.2.2.2.1, w, S.1.2.2.2.2.2), S.2) (vp_updL f 2 w.toInt64) := by
  obtain ⟨⟨e0, e1, e2, e3⟩, h4, h5⟩ := h
  refine ⟨⟨by rw [upL_ne (by omega)]; exact e0, by rw [upL_ne (by omega)]; exact e1, upL_eq, by rw [upL_ne (by omega)]; exact e3⟩, fun j hj => ?_, fun c hc => ?_⟩
  · rw [upL_ne (by omega), upL_ne (by omega), upL_ne (by omega), upL_ne (by omega)]
    exact h4 j hj
  · rw [upL_ne (by omega), upL_ne (by omega), upL_ne (by omega), upL_ne (by omega), upL_ne (by omega)]
    exact h5 c hc
theorem RS.drift {S : zS} {f : Nat → Int64} {w : Int32} (h : RS S f) : RS ((S.1.1, S.1.2.1, S.1.2.2.1, S.1.2.2.2.1, S.1.2.2.2.2.1, w), S.2) (vp_updL f 1 w.toInt64) := by
  obtain ⟨⟨e0, e1, e2, e3⟩, h4, h5⟩ := h
  refine ⟨⟨by rw [upL_ne (by omega)]; exact e0, upL_eq, by rw [upL_ne (by omega)]; exact e2, by rw [upL_ne (by omega)]; exact e3⟩, fun j hj => ?_, fun c hc => ?_⟩
  · rw [upL_ne (by omega), upL_ne (by omega), upL_ne (by omega), upL_ne (by omega)]
    exact h4 j hj
  · rw [upL_ne (by omega), upL_ne (by omega), upL_ne (by omega), upL_ne (by omega), upL_ne (by omega)]
    exact h5 c hc
theorem WM.struck {k loc w : Nat} {M : zM} (h : WM k M loc) (hw : w < 64) : WM k (M.1, M.2.1, M.2.2.1, M.2.2.2.1, nI w, M.2.2.2.2.2) loc := by
  obtain ⟨dr, w1, w2, a1, a2, a3, a4, a5, a6, a7, a8⟩ := h
  exact ⟨dr, w1, w, a1, a2, a3, a4, rfl, hw, a7, a8⟩
theorem WM.drift {k loc w : Nat} {M : zM} (h : WM k M loc) (hw : w ≤ 999999) : WM k (M.1, M.2.1, M.2.2.1, M.2.2.2.1, M.2.2.2.2.1, nI w) loc := by
  obtain ⟨dr, w1, w2, a1, a2, a3, a4, a5, a6, a7, a8⟩ := h
  exact ⟨w, w1, w2, rfl, hw, a3, a4, a5, a6, a7, a8⟩
theorem m_strike {E : pm_E} {Q : pm_Q} {x y : zD} {m : zN} {k : Nat} {i z : Int32} (I : Inv k x m) (h : ∀ m', Inv (k + 1) (dStrike x i z).2 m' → Q (some (.int (dStrike x i z).1)) (mkH y m')) : Sm E n_X9_strike 0 (pl_entry 3 [.ref 92, .int i, .int z], [], mkH y m, 0, 0) Q := by
  have bad : ¬ (okM i ∧ 0 ≤ z ∧ z ≤ 1) → Q (some (.int (-1))) (mkH y m) := fun z' => by
    have e : dStrike x i z = (-1, x) := if_neg z'
    rw [e] at h
    exact h m I.mono
  refine pm_go (aX9_strike E) 100 rfl ?_
  conv => whnf
  refine ⟨trivial, m_isMaster (fun q => ?_) (fun q => ?_)⟩
  · have hM := okM6.mp q
    conv => whnf
    refine ⟨fun z => absurd z (by decide), fun _ => ?_⟩
    conv => whnf
    refine ⟨trivial, m_within (fun q2 => ?_) (fun q2 => ?_)⟩
    · have hz := z01.mp q2
      conv => whnf
      refine ⟨fun _ => ?_, fun z => absurd z (by decide)⟩
      have e : dStrike x i z = _ := if_pos ⟨hM, hz⟩
      rw [e] at h
      obtain ⟨j, hj, rfl⟩ := okM_nI hM
      obtain ⟨hC, loc, hl, hWM⟩ := I.2.2.2.1
      obtain ⟨dr, w1, w2, a1, a2, a3, a4, a5, a6, a7, a8⟩ := hWM
      have hWM : WM k (xS x).1 loc := ⟨dr, w1, w2, a1, a2, a3, a4, a5, a6, a7, a8⟩
      have hb := bitX w2 a6 j hj
      have b1 := bit32 w2 a6 j hj
      have b0 := bitZ w2 a6 j hj
      have f2 : mN m 2 = (nI w2).toInt64 := by rw [I.2.2.1.1.2.2.1, a5]
      have no : ((xS x).1.2.2.2.2.1 >>> (nI j &&& 31)) &&& 1 = z → Q (some (.int (-2))) (mkH y m) := fun c => by
        rw [if_pos c] at h
        exact h m I.mono
      have yes : ¬ ((xS x).1.2.2.2.2.1 >>> (nI j &&& 31)) &&& 1 = z → ∀ (f' : Nat → Int64) (K' : Int32), PR k (dKp (xP x) (xS x)) f' K' → WM k (((xS x).1.1, (xS x).1.2.1, (xS x).1.2.2.1, (xS x).1.2.2.2.1, nI (w2 ^^^ 1 <<< j), (xS x).1.2.2.2.2.2) : zM) loc ∧ RS (((xS x).1.1, (xS x).1.2.1, (xS x).1.2.2.1, (xS x).1.2.2.2.1, nI (w2 ^^^ 1 <<< j), (xS x).1.2.2.2.2.2), (xS x).2) (vp_updL (mN m) 2 (mN m 2 ^^^ (1 <<< ((nI j).toInt64 &&& 63)))) ∧ Q (some (.int (nHd ((xS x).1.1, (xS x).1.2.1, (xS x).1.2.2.1, (xS x).1.2.2.2.1, nI (w2 ^^^ 1 <<< j), (xS x).1.2.2.2.2.2)))) (mkH y (tN (tP m f' K') (vp_updL (mN m) 2 (mN m 2 ^^^ (1 <<< ((nI j).toInt64 &&& 63)))))) := fun c f' K' hP => by
        rw [if_neg c] at h
        have e5 : (xS x).1.2.2.2.2.1 ^^^ (1 <<< (nI j &&& 31)) = nI (w2 ^^^ 1 <<< j) := by rw [a5]; exact hb.1
        rw [f2, hb.2.2]
        have hR := I.2.2.1.struck (w := nI (w2 ^^^ 1 <<< j))
        have hW := hWM.struck hb.2.1
        rw [e5] at h
        exact ⟨hW, hR, h (tN (tP m f' K') (vp_updL (mN m) 2 (nI (w2 ^^^ 1 <<< j)).toInt64)) ⟨I.1, I.2.1, hR, ⟨hC, loc, hl, hW.mono⟩, hP.mono⟩⟩
      conv => whnf
      refine ⟨trivial, m_isStruck hj f2 a6 (fun t => ?_) (fun t => ?_)⟩
      · conv => whnf
        refine ⟨fun q3 => ?_, fun q3 => ?_⟩
        · conv => whnf
          refine ⟨fun _ => ?_, fun z => absurd z (by decide)⟩
          conv => whnf
          refine ⟨trivial, m_note I.2.2.2.2 I.2.2.2.1 I.2.2.1 (fun f' K' hP => ?_)⟩
          obtain ⟨hW, hR, hQ⟩ := yes (fun c => q3 (by rw [← c, a5]; exact b1.mpr t)) f' K' hP
          conv => whnf
          refine ⟨inA (n := 2) (by decide) (by decide), ?_⟩
          conv => whnf
          refine ⟨inA (n := 2) (by decide) (by decide), ?_⟩
          conv => whnf
          refine ⟨trivial, m_many (m := tN (tP m f' K') (vp_updL (mN m) 2 (mN m 2 ^^^ (1 <<< ((nI j).toInt64 &&& 63))))) hW hR ?_⟩
          conv => whnf
          refine ⟨trivial, ?_⟩
          exact hQ
        · have q3' : z = 1 := q3
          conv => whnf
          refine ⟨fun z => absurd rfl z, fun _ => ?_⟩
          conv => whnf
          refine ⟨trivial, no ?_⟩
          rw [q3', a5]
          exact b1.mpr t
      · conv => whnf
        refine ⟨fun q3 => ?_, fun q3 => ?_⟩
        · have q3' : ¬ z = 1 := q3
          have z0 : z = 0 := by
            have h1 := Int32.le_iff_toInt_le.mp hz.1
            have h2 := Int32.le_iff_toInt_le.mp hz.2
            have h3 : ¬ z.toInt = 1 := fun u => q3' (Int32.toInt_inj.mp (by rw [u]; decide))
            rw [show (0 : Int32).toInt = 0 by decide] at h1
            rw [show (1 : Int32).toInt = 1 by decide] at h2
            exact Int32.toInt_inj.mp (by rw [show (0 : Int32).toInt = 0 by decide]; omega)
          conv => whnf
          refine ⟨fun z => absurd rfl z, fun _ => ?_⟩
          conv => whnf
          refine ⟨trivial, no ?_⟩
          rw [z0, a5]
          exact b0.mpr t
        · have q3' : z = 1 := q3
          conv => whnf
          refine ⟨fun _ => ?_, fun z => absurd z (by decide)⟩
          conv => whnf
          refine ⟨trivial, m_note I.2.2.2.2 I.2.2.2.1 I.2.2.1 (fun f' K' hP => ?_)⟩
          obtain ⟨hW, hR, hQ⟩ := yes (fun c => t (b1.mp (by rw [q3', a5] at c; exact c))) f' K' hP
          conv => whnf
          refine ⟨inA (n := 2) (by decide) (by decide), ?_⟩
          conv => whnf
          refine ⟨inA (n := 2) (by decide) (by decide), ?_⟩
          conv => whnf
          refine ⟨trivial, m_many (m := tN (tP m f' K') (vp_updL (mN m) 2 (mN m 2 ^^^ (1 <<< ((nI j).toInt64 &&& 63))))) hW hR ?_⟩
          conv => whnf
          refine ⟨trivial, ?_⟩
          exact hQ
    · conv => whnf
      refine ⟨fun z => absurd rfl z, fun _ => ?_⟩
      conv => whnf
      exact ⟨trivial, bad (fun z => q2 (z01.mpr z.2))⟩
  · conv => whnf
    refine ⟨fun _ => ?_, fun z => absurd rfl z⟩
    conv => whnf
    exact ⟨trivial, bad (fun z => q (okM6.mpr z.1))⟩
