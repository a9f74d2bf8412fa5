/-! ===== the reference: open commits, ticks ===== -/
theorem nI_sub {a b : Nat} (h : b ≤ a) : nI a - nI b = nI (a - b) := by
  have e : nI a = nI (a - b) + nI b := by rw [nI_add, Nat.sub_add_cancel h]
  rw [e]
  exact Int32.add_sub_cancel _ _
theorem m4_ne {u : Nat} (hu : u < 2 ^ 31) : ¬ (nI u).toInt64 = -4 := fun z => by
  have e := congrArg Int64.toInt z
  rw [Int32.toInt_toInt64, nI_toInt hu, show (-4 : Int64).toInt = -4 by decide] at e
  omega
theorem ix284 {c : Nat} : (28 : Int32) + 5 * nI c + 4 = nI (28 + 5 * c + 4) := ix28k (k := 4)
theorem ix282 {c : Nat} : (28 : Int32) + 5 * nI c + 2 = nI (28 + 5 * c + 2) := ix28k (k := 2)
/-- which are open, in the reference's row -/
theorem RS.done {S : zS} {f : Nat → Int64} {d s c : Nat} (h : RS S f) (hC : WC S.2.1) (hs : cSz S.2.1 = nI s) (hd : cDn S.2.1 = nI d) (hs16 : s ≤ 16) (hds : d ≤ s) (hc : c < s) : f (28 + 5 * c + 4) = -4 ↔ d ≤ c := by
  obtain ⟨d', s', g1, g2, g3, g4, -, -, g7⟩ := hC
  have ed : d' = d := (nI_eq (by omega) (by omega)).mp (by rw [← g4, hd])
  subst ed
  have e := (h.2.2 c (by rw [hs, cl (by omega)]; exact hc)).2.2.2.2
  rw [hd, cl (by omega)] at e
  rw [e]
  by_cases q : c < d'
  · rw [if_pos q]
    obtain ⟨u, hu, eu⟩ := g7 c q
    rw [eu]
    exact ⟨fun z => absurd z (m4_ne hu), fun z => by omega⟩
  · rw [if_neg q]
    exact ⟨fun _ => by omega, fun _ => rfl⟩
theorem l_open {E : pm_E} {Q : pm_Q} {y : zD} {m : zN} {S : zS} {d s : Nat} (hC : WC S.2.1) (hR : RS S (mN m)) (hs : cSz S.2.1 = nI s) (hd : cDn S.2.1 = nI d) (hs16 : s ≤ 16) (hds : d ≤ s) (h : Q (some (.int (nI (s - d)))) (mkH y m)) : ∀ (n i : Nat), i + n = s → Sm E n_X9_openMany 4 ([some (.ref 92), some (.int (nI (i - d))), some (.int (nI i))], [], mkH y m, 0, 0) Q := by
  have f3 : mN m 3 = (nI s).toInt64 := by rw [hR.1.2.2.2, hs]
  intro n
  induction n with
  | zero =>
    intro i hi
    obtain rfl : i = s := by omega
    refine pm_lp (aX9_openMany E) 100 4 rfl ?_
    conv => whnf
    refine ⟨inA (n := 3) (by decide) (by decide), ?_⟩
    conv => whnf
    refine ⟨fun _ => ?_, fun q => absurd (show mN m 3 ≤ (nI i).toInt64 by rw [f3]; exact Int64.le_refl _) q⟩
    conv => whnf
    exact ⟨trivial, h⟩
  | succ n ih =>
    intro i hi
    have c4 : ((28 : Int32) + 5 * nI i + 4).toNatClampNeg = 28 + 5 * i + 4 := by rw [ix284]; exact cl (by omega)
    have hdn := hR.done (c := i) hC hs hd hs16 hds (by omega)
    have nx := ih (i + 1) (by omega)
    rw [nI_succ] at nx
    refine pm_lp (aX9_openMany E) 100 4 rfl ?_
    conv => whnf
    refine ⟨inA (n := 3) (by decide) (by decide), ?_⟩
    conv => whnf
    refine ⟨fun q => absurd (show mN m 3 ≤ (nI i).toInt64 from q) (by rw [f3, t64_le]; exact nI_ge (by omega) (by omega)), fun _ => ?_⟩
    conv => whnf
    refine ⟨by rw [ix284]; exact inA (by omega) (by decide), ?_⟩
    conv => whnf
    refine ⟨fun q => ?_, fun q => ?_⟩
    · have q' : ¬ mN m ((28 : Int32) + 5 * nI i + 4).toNatClampNeg = -4 := q
      rw [c4, hdn] at q'
      have e : nI (i - d) + 0 = nI (i + 1 - d) := by rw [Int32.add_zero, show i + 1 - d = i - d by omega]
      rw [← e] at nx
      conv => whnf
      exact ⟨trivial, nx⟩
    · have q' : mN m ((28 : Int32) + 5 * nI i + 4).toNatClampNeg = -4 := q
      rw [c4, hdn] at q'
      have e : nI (i - d) + 1 = nI (i + 1 - d) := by rw [nI_1, show i + 1 - d = i - d + 1 by omega]
      rw [← e] at nx
      conv => whnf
      exact ⟨trivial, nx⟩
theorem m_open {E : pm_E} {Q : pm_Q} {y : zD} {m : zN} {S : zS} (hC : WC S.2.1) (hR : RS S (mN m)) (h : Q (some (.int (cSz S.2.1 - cDn S.2.1))) (mkH y m)) : Sm E n_X9_openMany 0 (pl_entry 3 [.ref 92], [], mkH y m, 0, 0) Q := by
  have hC' := hC
  obtain ⟨d, s, g1, g2, g3, g4, -⟩ := hC'
  rw [g3, g4, nI_sub g1] at h
  refine pm_go (aX9_openMany E) 100 rfl ?_
  conv => whnf
  refine ⟨trivial, ?_⟩
  have nx := l_open (E := E) hC hR g3 g4 g2 g1 h s 0 (by omega)
  rw [Nat.zero_sub] at nx
  exact nx
def CF (C : zC) (d e : Nat) (t : Int32) : zC := (C.1, C.2.1, C.2.2.1, C.2.2.2.1, fun c => if d ≤ c ∧ c < e then t else C.2.2.2.2.1 c, cSz C, nI e)
theorem CF_self {C : zC} {d : Nat} {t : Int32} (h : cDn C = nI d) : CF C d d t = C := by
  unfold CF
  have e : (fun c => if d ≤ c ∧ c < d then t else C.2.2.2.2.1 c) = C.2.2.2.2.1 := funext fun c => if_neg (by omega)
  rw [e, ← h]
theorem dFin_char (b : Int64) (t : Int32) : ∀ (n d : Nat) (C : zC), cDn C = nI d → d + n ≤ 16 → ∃ d', d ≤ d' ∧ d' ≤ d + n ∧ dFin b t n C = CF C d d' t ∧ (∀ c, d ≤ c → c < d' → C.2.2.1 c < b) ∧ (d' < d + n → ¬ C.2.2.1 d' < b)
  | 0, d, C, h, _ => ⟨d, Nat.le_refl _, Nat.le_refl _, (CF_self h).symm, fun c _ _ => by omega, fun h => by omega⟩
  | n + 1, d, C, h, h16 => by
    have cd : (cDn C).toNatClampNeg = d := by rw [h]; exact cl (by omega)
    rw [dFin, cd]
    by_cases q : C.2.2.1 d < b
    · rw [if_pos q]
      obtain ⟨d', a1, a2, a3, a4, a5⟩ := dFin_char b t n (d + 1) (C.1, C.2.1, C.2.2.1, C.2.2.2.1, upd C.2.2.2.2.1 d t, cSz C, cDn C + 1) (by show cDn C + 1 = _; rw [h, nI_1]) (by omega)
      refine ⟨d', by omega, by omega, ?_, fun c c1 c2 => ?_, fun z => a5 (by omega)⟩
      · rw [a3]
        unfold CF
        have e : (fun c => if d + 1 ≤ c ∧ c < d' then t else upd C.2.2.2.2.1 d t c) = fun c => if d ≤ c ∧ c < d' then t else C.2.2.2.2.1 c := funext fun c => by
          unfold upd
          by_cases u : c = d
          · rw [if_neg (by omega), if_pos u, if_pos (by omega)]
          · by_cases v : d ≤ c ∧ c < d'
            · rw [if_pos v, if_pos (by omega)]
            · rw [if_neg v, if_neg (by omega), if_neg u]
        show (C.1, C.2.1, C.2.2.1, C.2.2.2.1, (fun c => if d + 1 ≤ c ∧ c < d' then t else upd C.2.2.2.2.1 d t c), cSz C, nI d') = _
        rw [e]
      · by_cases u : c = d
        · rw [u]; exact q
        · exact a4 c (by omega) c2
    · rw [if_neg q]
      exact ⟨d, Nat.le_refl _, by omega, (CF_self h).symm, fun c _ _ => by omega, fun _ => q⟩
theorem st_mono {C : zC} {s : Nat} (h : ∀ c, c + 1 < s → (C.2.2.1 c).toInt < (C.2.2.1 (c + 1)).toInt) : ∀ (n c : Nat), c + n < s → (C.2.2.1 c).toInt ≤ (C.2.2.1 (c + n)).toInt
  | 0, c, _ => Int.le_refl _
  | n + 1, c, hc => by
    have h1 := st_mono h n c (by omega)
    have h2 := h (c + n) (by omega)
    have e : c + (n + 1) = c + n + 1 := rfl
    rw [e]
    omega
/-- what a tick makes done -/
theorem dFinish_char {S : zS} {d s : Nat} (hC : WC S.2.1) (hs : cSz S.2.1 = nI s) (hd : cDn S.2.1 = nI d) (hs16 : s ≤ 16) (hds : d ≤ s) : ∃ d', d ≤ d' ∧ d' ≤ s ∧ dFinish S = CF S.2.1 d d' S.2.2 ∧ ∀ c, d ≤ c → c < s → ((okG (lS S) ∧ S.2.1.2.2.1 c < beg (lS S)) ↔ c < d') := by
  unfold dFinish
  by_cases q : cSz S.2.1 - cDn S.2.1 = 0
  · have : s = d := by
      rw [hs, hd, nI_sub hds] at q
      have := (nI_eq (b := 0) (by omega) (by omega)).mp q
      omega
    subst this
    rw [if_pos q]
    exact ⟨s, Nat.le_refl _, Nat.le_refl _, (CF_self hd).symm, fun c c1 c2 => by omega⟩
  · rw [if_neg q]
    by_cases g : okG (lS S)
    · rw [if_pos g, hs, hd, cl (by omega), cl (by omega)]
      obtain ⟨d', a1, a2, a3, a4, a5⟩ := dFin_char (beg (lS S)) S.2.2 (s - d) d S.2.1 hd (by omega)
      refine ⟨d', a1, by omega, a3, fun c c1 c2 => ⟨fun z => ?_, fun z => ⟨g, a4 c c1 z⟩⟩⟩
      refine Classical.byContradiction fun u => ?_
      have b5 := a5 (by omega)
      obtain ⟨d2, s2, g1, g2, g3, g4, -, g6, -⟩ := hC
      have es : s2 = s := (nI_eq (by omega) (by omega)).mp (by rw [← g3, hs])
      subst es
      have mm := st_mono g6 (c - d') d' (by omega)
      rw [show d' + (c - d') = c by omega] at mm
      have z2 := Int64.lt_iff_toInt_lt.mp z.2
      have a6 := Int64.le_iff_toInt_le.mp (Int64.not_lt.mp b5)
      omega
    · rw [if_neg g]
      refine ⟨d, Nat.le_refl _, hds, (CF_self hd).symm, fun c c1 c2 => ⟨fun z => absurd z.1 g, fun z => by omega⟩⟩
theorem WC.fin {C : zC} {d e s : Nat} {t : Int32} (h : WC C) (hs : cSz C = nI s) (hd : cDn C = nI d) (hs16 : s ≤ 16) (h1 : d ≤ e) (h2 : e ≤ s) (ht : ∃ u : Nat, u < 2 ^ 31 ∧ t = nI u) : WC (CF C d e t) := by
  obtain ⟨d2, s2, g1, g2, g3, g4, g5, g6, g7⟩ := h
  have es : s2 = s := (nI_eq (by omega) (by omega)).mp (by rw [← g3, hs])
  have ed : d2 = d := (nI_eq (by omega) (by omega)).mp (by rw [← g4, hd])
  subst es ed
  refine ⟨e, s2, h2, hs16, hs, rfl, g5, g6, fun c hc => ?_⟩
  show ∃ u : Nat, u < 2 ^ 31 ∧ (if d2 ≤ c ∧ c < e then t else C.2.2.2.2.1 c) = nI u
  by_cases q : d2 ≤ c ∧ c < e
  · rw [if_pos q]; exact ht
  · rw [if_neg q]; exact g7 c (by omega)
theorem RS.close {S : zS} {f : Nat → Int64} {d s i : Nat} (hs : cSz S.2.1 = nI s) (hs16 : s ≤ 16) (h : RS (S.1, CF S.2.1 d i S.2.2, S.2.2) f) (hdi : d ≤ i) (his : i < s) : RS (S.1, CF S.2.1 d (i + 1) S.2.2, S.2.2) (vp_updL f (28 + 5 * i + 4) S.2.2.toInt64) := by
  obtain ⟨⟨e0, e1, e2, e3⟩, h4, h5⟩ := h
  refine ⟨⟨by rw [upL_ne (by omega)]; exact e0, by rw [upL_ne (by omega)]; exact e1, by rw [upL_ne (by omega)]; exact e2, by rw [upL_ne (by omega)]; exact e3⟩, fun j hj => ?_, fun c hc => ?_⟩
  · rw [upL_ne (by omega), upL_ne (by omega), upL_ne (by omega), upL_ne (by omega)]
    exact h4 j hj
  · have hc' : c < (cSz S.2.1).toNatClampNeg := hc
    rw [hs, cl (by omega)] at hc'
    obtain ⟨a0, a1, a2, a3, a4⟩ := h5 c hc
    rw [upL_ne (by omega), upL_ne (by omega), upL_ne (by omega), upL_ne (by omega)]
    refine ⟨a0, a1, a2, a3, ?_⟩
    have a4 : f (28 + 5 * c + 4) = if c < (nI i).toNatClampNeg then ((fun c => if d ≤ c ∧ c < i then S.2.2 else S.2.1.2.2.2.2.1 c) c).toInt64 else -4 := a4
    rw [cl (by omega)] at a4
    show vp_updL f (28 + 5 * i + 4) S.2.2.toInt64 (28 + 5 * c + 4) = if c < (nI (i + 1)).toNatClampNeg then ((fun c => if d ≤ c ∧ c < i + 1 then S.2.2 else S.2.1.2.2.2.2.1 c) c).toInt64 else -4
    rw [cl (by omega)]
    by_cases q : c = i
    · subst q
      rw [upL_eq, if_pos (by omega)]
      show _ = (if d ≤ c ∧ c < c + 1 then S.2.2 else S.2.1.2.2.2.2.1 c).toInt64
      rw [if_pos (by omega)]
    · rw [upL_ne (by omega), a4]
      by_cases z : c < i
      · rw [if_pos z, if_pos (by omega)]
        show (if d ≤ c ∧ c < i then S.2.2 else S.2.1.2.2.2.2.1 c).toInt64 = (if d ≤ c ∧ c < i + 1 then S.2.2 else S.2.1.2.2.2.2.1 c).toInt64
        by_cases w : d ≤ c
        · rw [if_pos ⟨w, z⟩, if_pos (by omega)]
        · rw [if_neg (by omega), if_neg (by omega)]
      · rw [if_neg z, if_neg (by omega)]
theorem upL_same {f : Nat → Int64} {i : Nat} : vp_updL f i (f i) = f := funext fun t => by
  unfold vp_updL
  by_cases q : t = i
  · rw [if_pos q, q]
  · rw [if_neg q]
theorem l_close {E : pm_E} {Q : pm_Q} {y : zD} {m : zN} {k : Nat} {S : zS} {F : zF} {d s d' : Nat} (hW : WF k S) (hs : cSz S.2.1 = nI s) (hd : cDn S.2.1 = nI d) (hs16 : s ≤ 16) (hds : d ≤ d') (hd's : d' ≤ s) (hF : FF F (lS S)) (hcl : ∀ c, d ≤ c → c < s → ((okG (lS S) ∧ S.2.1.2.2.1 c < beg (lS S)) ↔ c < d')) (h : ∀ f', RS (S.1, CF S.2.1 d d' S.2.2, S.2.2) f' → Q (some (.int (nI (d' - d)))) (mkH y (tN (tF m F) f'))) : ∀ (n i e : Nat) (f : Nat → Int64) (o3 o4 : Option Value), i + n = s → d ≤ e → e ≤ d' → (i ≤ d → e = d) → (d ≤ i → i ≤ d' → e = i) → (d' ≤ i → e = d') → RS (S.1, CF S.2.1 d e S.2.2, S.2.2) f → Sm E n_X9_closeOpen 23 ([some (.ref 92), some (.int (nI (e - d))), some (.int (nI i)), o3, o4], [], mkH y (tN (tF m F) f), 0, 0) Q := by
  obtain ⟨hC, loc, hloc, hWM⟩ := hW
  have hl31 : loc < 2 ^ 31 ∨ True := Or.inr trivial
  intro n
  induction n with
  | zero =>
    intro i e f o3 o4 hi h1 h2 h3 h4 h5 hR
    obtain rfl : i = s := by omega
    obtain rfl : e = d' := h5 hd's
    have f3 : f 3 = (nI i).toInt64 := by have := hR.1.2.2.2; rw [← hs]; exact this
    refine pm_lp (aX9_closeOpen E) 100 23 rfl ?_
    conv => whnf
    refine ⟨inA (n := 3) (by decide) (by decide), ?_⟩
    conv => whnf
    refine ⟨fun _ => ?_, fun q => absurd (show f 3 ≤ (nI i).toInt64 by rw [f3]; exact Int64.le_refl _) q⟩
    conv => whnf
    exact ⟨trivial, h f hR⟩
  | succ n ih =>
    intro i e f o3 o4 hi h1 h2 h3 h4 h5 hR
    have f3 : f 3 = (nI s).toInt64 := by have := hR.1.2.2.2; rw [← hs]; exact this
    have c4 : ((28 : Int32) + 5 * nI i + 4).toNatClampNeg = 28 + 5 * i + 4 := by rw [ix284]; exact cl (by omega)
    have c2 : ((28 : Int32) + 5 * nI i + 2).toNatClampNeg = 28 + 5 * i + 2 := by rw [ix282]; exact cl (by omega)
    have i4 : vp_in ((28 : Int32) + 5 * nI i + 4) 108 := by rw [ix284]; exact inA (by omega) (by decide)
    have i2 : vp_in ((28 : Int32) + 5 * nI i + 2) 108 := by rw [ix282]; exact inA (by omega) (by decide)
    have hdn : f (28 + 5 * i + 4) = -4 ↔ e ≤ i := by
      have a4 : f (28 + 5 * i + 4) = if i < (nI e).toNatClampNeg then ((fun c => if d ≤ c ∧ c < e then S.2.2 else S.2.1.2.2.2.2.1 c) i).toInt64 else -4 := (hR.2.2 i (by show i < (cSz S.2.1).toNatClampNeg; rw [hs, cl (by omega)]; omega)).2.2.2.2
      rw [cl (by omega)] at a4
      rw [a4]
      by_cases q : i < e
      · rw [if_pos q]
        have hid : i < d := by
          by_cases u : i < d
          · exact u
          · by_cases v : i ≤ d'
            · have := h4 (by omega) v; omega
            · have := h5 (by omega); omega
        show (if d ≤ i ∧ i < e then S.2.2 else S.2.1.2.2.2.2.1 i).toInt64 = -4 ↔ _
        rw [if_neg (by omega)]
        obtain ⟨d2, s2, g1, g2, g3, g4, g5, g6, g7⟩ := hC
        have ed : d2 = d := (nI_eq (by omega) (by omega)).mp (by rw [← g4, hd])
        obtain ⟨u, hu, eu⟩ := g7 i (by omega)
        rw [eu]
        exact ⟨fun z => absurd z (m4_ne hu), fun z => by omega⟩
      · rw [if_neg q]
        exact ⟨fun _ => by omega, fun _ => rfl⟩
    have st : f (28 + 5 * i + 2) = S.2.1.2.2.1 i := (hR.2.2 i (by show i < (cSz S.2.1).toNatClampNeg; rw [hs, cl (by omega)]; omega)).2.2.1
    have keep : (d ≤ i → ¬ i < d') → ∀ o3 o4 : Option Value, Sm E n_X9_closeOpen 23 ([some (.ref 92), some (.int (nI (e - d) + 0)), some (.int (nI i + 1)), o3, o4], [], mkH y (tN (tF m F) (vp_updL f ((28 : Int32) + 5 * nI i + 4).toNatClampNeg (f ((28 : Int32) + 5 * nI i + 4).toNatClampNeg))), 0, 0) Q := fun z o3 o4 => by
      rw [upL_same, Int32.add_zero, ← nI_succ]
      exact ih (i + 1) e f o3 o4 (by omega) h1 h2 (fun u => h3 (by omega)) (fun u v => by
        by_cases w : d ≤ i
        · exact absurd (by omega) (z w)
        · have := h3 (by omega); omega) (fun u => by
        by_cases w : d ≤ i
        · exact h5 (by have := z w; omega)
        · have := h3 (by omega); omega) hR
    have take : d ≤ i → i < d' → ∀ o3 o4 : Option Value, Sm E n_X9_closeOpen 23 ([some (.ref 92), some (.int (nI (e - d) + 1)), some (.int (nI i + 1)), o3, o4], [], mkH y (tN (tF m F) (vp_updL f ((28 : Int32) + 5 * nI i + 4).toNatClampNeg (f 0))), 0, 0) Q := fun z1 z2 o3 o4 => by
      obtain rfl : e = i := h4 z1 (by omega)
      have f0 : f 0 = S.2.2.toInt64 := hR.1.1
      rw [c4, f0, ← nI_succ, ← nI_succ, show e - d + 1 = e + 1 - d by omega]
      exact ih (e + 1) (e + 1) _ o3 o4 (by omega) (by omega) (by omega) (fun u => by omega) (fun u v => rfl) (fun u => by omega) (hR.close hs hs16 z1 (by omega))
    refine pm_lp (aX9_closeOpen E) 100 23 rfl ?_
    conv => whnf
    refine ⟨inA (n := 3) (by decide) (by decide), ?_⟩
    conv => whnf
    refine ⟨fun q => absurd (show f 3 ≤ (nI i).toInt64 from q) (by rw [f3, t64_le]; exact nI_ge (by omega) (by omega)), fun _ => ?_⟩
    conv => whnf
    refine ⟨i4, ?_⟩
    conv => whnf
    refine ⟨fun q => ?_, fun q => ?_⟩
    · have q' : ¬ f ((28 : Int32) + 5 * nI i + 4).toNatClampNeg = -4 := q
      rw [c4, hdn] at q'
      conv => whnf
      refine ⟨fun _ => ?_, fun z => absurd rfl z⟩
      conv => whnf
      refine ⟨i4, ?_⟩
      conv => whnf
      refine ⟨i4, ?_⟩
      conv => whnf
      refine ⟨fun _ => ?_, fun z => absurd rfl z⟩
      conv => whnf
      refine ⟨trivial, ?_⟩
      exact keep (fun u v => q' (Nat.le_of_eq (h4 u (by omega)))) _ _
    · have q' : f ((28 : Int32) + 5 * nI i + 4).toNatClampNeg = -4 := q
      rw [c4, hdn] at q'
      have hdi : d ≤ i := by omega
      conv => whnf
      refine ⟨trivial, m_good (m := tN (tF m F) f) hF (fun hg => ?_) (fun hg => ?_)⟩
      · have hne : lS S ≠ [] := fun z => by
          have hg' := hg
          rw [z] at hg'
          exact absurd hg' (by decide)
        have eb := (hF.2.2 hne).1
        conv => whnf
        refine ⟨fun z => absurd z (by decide), fun _ => ?_⟩
        conv => whnf
        refine ⟨i2, ?_⟩
        conv => whnf
        refine ⟨fun q2 => ?_, fun q2 => ?_⟩
        · have q2' : F.2.2.2.2.1 ≤ f ((28 : Int32) + 5 * nI i + 2).toNatClampNeg := q2
          rw [c2, st, eb] at q2'
          conv => whnf
          refine ⟨fun _ => ?_, fun z => absurd rfl z⟩
          conv => whnf
          refine ⟨i4, ?_⟩
          conv => whnf
          refine ⟨i4, ?_⟩
          conv => whnf
          refine ⟨fun _ => ?_, fun z => absurd rfl z⟩
          conv => whnf
          refine ⟨trivial, ?_⟩
          exact keep (fun u v => Int64.not_lt.mpr q2' ((hcl i hdi (by omega)).mpr v).2) _ _
        · have q2' : ¬ F.2.2.2.2.1 ≤ f ((28 : Int32) + 5 * nI i + 2).toNatClampNeg := q2
          rw [c2, st, eb] at q2'
          conv => whnf
          refine ⟨fun z => absurd z (by decide), fun _ => ?_⟩
          conv => whnf
          refine ⟨inA (n := 0) (by decide) (by decide), ?_⟩
          conv => whnf
          refine ⟨i4, ?_⟩
          conv => whnf
          refine ⟨fun z => absurd z (by decide), fun _ => ?_⟩
          conv => whnf
          refine ⟨trivial, ?_⟩
          exact take hdi ((hcl i hdi (by omega)).mp ⟨hg, Int64.not_le.mp q2'⟩) _ _
      · conv => whnf
        refine ⟨fun _ => ?_, fun z => absurd rfl z⟩
        conv => whnf
        refine ⟨fun _ => ?_, fun z => absurd rfl z⟩
        conv => whnf
        refine ⟨i4, ?_⟩
        conv => whnf
        refine ⟨i4, ?_⟩
        conv => whnf
        refine ⟨fun _ => ?_, fun z => absurd rfl z⟩
        conv => whnf
        refine ⟨trivial, ?_⟩
        exact keep (fun u v => hg ((hcl i hdi (by omega)).mpr v).1) _ _
