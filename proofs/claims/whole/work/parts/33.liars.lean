/-! ===== the reference: liars ===== -/
theorem spL_ne {M : zM} {t : Int32} {i : Nat} (hb : hB M (nI i)) : ∀ j, i < j → spL M t j ≠ [] := by
  intro j
  induction j with
  | zero => intro h; omega
  | succ j ih =>
    intro h
    rw [spL]
    by_cases q : i = j
    · subst q
      rw [if_pos hb]
      exact List.append_ne_nil_of_right_ne_nil _ (by simp)
    · have := ih (by omega)
      split
      · exact List.append_ne_nil_of_left_ne_nil this _
      · exact this
theorem l_lia {E : pm_E} {Q : pm_Q} {y : zD} {m : zN} {k loc : Nat} {S : zS} {F : zF} (hW : WM k S.1 loc) (hR : RS S (mN m)) (hF : FF F (lS S)) (h : Q (some (.int (dLiars S))) (mkH y (tF m F))) : ∀ (n i : Nat) (o3 : Option Value), i + n = 6 → Sm E n_X9_liarsNow 14 ([some (.ref 92), some (.int (dLi S.1 S.2.2 (beg (lS S)) (rend (lS S)) i)), some (.int (nI i)), o3], [], mkH y (tF m F), 0, 0) Q := by
  intro n
  induction n with
  | zero =>
    intro i o3 hi
    obtain rfl : i = 6 := by omega
    refine pm_lp (aX9_liarsNow E) 100 14 rfl ?_
    conv => whnf
    refine ⟨fun _ => ?_, fun q => absurd (show (6 : Int32) ≤ nI 6 by decide) q⟩
    conv => whnf
    exact ⟨trivial, h⟩
  | succ n ih =>
    intro i o3 hi
    have nx := fun o3 => ih (i + 1) o3 (by omega)
    rw [dLi, nI_succ] at nx
    have e0 : dLi S.1 S.2.2 (beg (lS S)) (rend (lS S)) i ||| 0 = dLi S.1 S.2.2 (beg (lS S)) (rend (lS S)) i := Int32.or_zero
    refine pm_lp (aX9_liarsNow E) 100 14 rfl ?_
    conv => whnf
    refine ⟨fun q => absurd (show nI 6 ≤ nI i from q) (nI_ge (by omega) (by decide)), fun _ => ?_⟩
    conv => whnf
    refine ⟨trivial, m_isHeard (m := tF m F) (S := S) (by omega) hW hR (fun hb => ?_) (fun hb => ?_)⟩
    · have htd := hB_told hW (by omega) hb
      have hne : lS S ≠ [] := spL_ne hb 6 (by omega)
      obtain ⟨eb, ee⟩ := hF.2.2 hne
      conv => whnf
      refine ⟨fun z => absurd z (by decide), fun _ => ?_⟩
      conv => whnf
      refine ⟨inA (n := 0) (by decide) (by decide), ?_⟩
      conv => whnf
      refine ⟨trivial, m_spanT (m := tF m F) (S := S) (T := S.2.2) hR.1.1 (by omega) hR htd (fun u => absurd u (by decide)) (fun _ => ?_)⟩
      conv => whnf
      refine ⟨fun q => ?_, fun q => ?_⟩
      · have q' : fE S.1 (nI i) S.2.2 < F.2.2.2.2.1 := q
        rw [eb] at q'
        rw [if_pos ⟨hb, fun z => Int64.not_lt.mpr z.2 q'⟩] at nx
        conv => whnf
        refine ⟨fun z => absurd z (by decide), fun _ => ?_⟩
        conv => whnf
        refine ⟨trivial, ?_⟩
        exact nx _
      · have q' : ¬ fE S.1 (nI i) S.2.2 < F.2.2.2.2.1 := q
        rw [eb] at q'
        conv => whnf
        refine ⟨inA (n := 0) (by decide) (by decide), ?_⟩
        conv => whnf
        refine ⟨trivial, m_spanT (m := tF m F) (S := S) (T := S.2.2) hR.1.1 (by omega) hR htd (fun _ => ?_) (fun u => absurd rfl u)⟩
        conv => whnf
        refine ⟨fun q2 => ?_, fun q2 => ?_⟩
        · have q2' : fB S.1 (nI i) S.2.2 ≤ F.2.2.2.2.2 := q2
          rw [ee] at q2'
          rw [if_neg (fun z => z.2 ⟨q2', Int64.not_lt.mp q'⟩)] at nx
          conv => whnf
          refine ⟨fun _ => ?_, fun z => absurd rfl z⟩
          conv => whnf
          refine ⟨trivial, ?_⟩
          rw [← e0] at nx
          exact nx _
        · have q2' : ¬ fB S.1 (nI i) S.2.2 ≤ F.2.2.2.2.2 := q2
          rw [ee] at q2'
          rw [if_pos ⟨hb, fun z => q2' z.1⟩] at nx
          conv => whnf
          refine ⟨fun z => absurd z (by decide), fun _ => ?_⟩
          conv => whnf
          refine ⟨trivial, ?_⟩
          exact nx _
    · rw [if_neg (fun z => hb z.1)] at nx
      conv => whnf
      refine ⟨fun _ => ?_, fun z => absurd rfl z⟩
      conv => whnf
      refine ⟨fun _ => ?_, fun z => absurd rfl z⟩
      conv => whnf
      refine ⟨trivial, ?_⟩
      rw [← e0] at nx
      exact nx _
theorem m_liarsNow {E : pm_E} {Q : pm_Q} {x y : zD} {m : zN} {k : Nat} (I : Inv k x m) (hk : k ≤ 512) (h : ∀ F', Q (some (.int (dLiars (xS x)))) (mkH y (tF m F'))) : Sm E n_X9_liarsNow 0 (pl_entry 4 [.ref 92], [], mkH y m, 0, 0) Q := by
  obtain ⟨hC, loc, hl, hWM⟩ := I.2.2.2.1
  refine pm_go (aX9_liarsNow E) 100 rfl ?_
  conv => whnf
  refine ⟨inA (n := 0) (by decide) (by decide), ?_⟩
  conv => whnf
  refine ⟨trivial, m_findI I.2.2.2.1 I.2.2.1 hk (fun F' hF => ?_)⟩
  conv => whnf
  refine ⟨trivial, ?_⟩
  exact l_lia hWM I.2.2.1 hF (h F') 6 0 none (by omega)
theorem m_liars {E : pm_E} {Q : pm_Q} {x y : zD} {m : zN} {k : Nat} (I : Inv k x m) (hk : k ≤ 512) (h : ∀ m', Inv k x m' → Q (some (.int (dLiars (xS x)))) (mkH y m')) : Sm E n_X9_liars 0 (pl_entry 1 [.ref 92], [], mkH y m, 0, 0) Q := by
  refine pm_go (aX9_liars E) 100 rfl ?_
  conv => whnf
  refine ⟨trivial, m_liarsNow I hk (fun F' => ?_)⟩
  conv => whnf
  exact ⟨trivial, h (tF m F') I⟩
def oC (w : Nat) : Nat → Nat
  | 0 => 0
  | i + 1 => oC w i + (if w.testBit i = true then 1 else 0)
theorem bitC : ∀ w, w < 64 → bc (nI w) = nI (oC w 6) ∧ ∀ i, i < 6 → nI (oC w i) + ((nI w >>> (nI i &&& 31)) &&& 1) = nI (oC w (i + 1)) := by decide +kernel
theorem bitI : ∀ w, w < 64 → ∀ v, v < 64 → nI w ||| nI v = nI (w ||| v) ∧ w ||| v < 64 ∧ (nI w).toInt64 ||| (nI v).toInt64 = (nI (w ||| v)).toInt64 := by decide +kernel
theorem l_ones {E : pm_E} {Q : pm_Q} {H : List va_E} {w : Nat} (hw : w < 64) (h : Q (some (.int (bc (nI w)))) H) : ∀ (n i : Nat), i + n = 6 → Sm E n_X9_ones 4 ([some (.int (nI w)), some (.int (nI (oC w i))), some (.int (nI i))], [], H, 0, 0) Q := by
  intro n
  induction n with
  | zero =>
    intro i hi
    obtain rfl : i = 6 := by omega
    rw [(bitC w hw).1] at h
    refine pm_lp (aX9_ones E) 100 4 rfl ?_
    conv => whnf
    refine ⟨fun _ => ?_, fun q => absurd (show (6 : Int32) ≤ nI 6 by decide) q⟩
    conv => whnf
    exact ⟨trivial, h⟩
  | succ n ih =>
    intro i hi
    have nx := ih (i + 1) (by omega)
    rw [nI_succ, ← (bitC w hw).2 i (by omega)] at nx
    refine pm_lp (aX9_ones E) 100 4 rfl ?_
    conv => whnf
    refine ⟨fun q => absurd (show nI 6 ≤ nI i from q) (nI_ge (by omega) (by decide)), fun _ => ?_⟩
    conv => whnf
    refine ⟨trivial, ?_⟩
    exact nx
theorem m_ones {E : pm_E} {Q : pm_Q} {H : List va_E} {w : Nat} {v : Int32} (hv : v = nI w) (hw : w < 64) (h : Q (some (.int (bc v))) H) : Sm E n_X9_ones 0 (pl_entry 3 [.int v], [], H, 0, 0) Q := by
  subst hv
  refine pm_go (aX9_ones E) 100 rfl ?_
  conv => whnf
  refine ⟨trivial, ?_⟩
  exact l_ones hw h 6 0 (by omega)
theorem dLi_w (M : zM) (t : Int32) (b e : Int64) : ∀ i, i ≤ 6 → ∃ w : Nat, w < 64 ∧ dLi M t b e i = nI w
  | 0, _ => ⟨0, by omega, rfl⟩
  | i + 1, hi => by
    obtain ⟨w, hw, ew⟩ := dLi_w M t b e i (by omega)
    rw [dLi, ew]
    split
    · exact ⟨_, (bitO w hw i (by omega)).2.1, (bitO w hw i (by omega)).1⟩
    · exact ⟨w, hw, rfl⟩
theorem m_strikeLiars {E : pm_E} {Q : pm_Q} {x y : zD} {m : zN} {k : Nat} (I : Inv k x m) (hk : k ≤ 512) (h : ∀ m', Inv (k + 1) (dSL x).2 m' → Q (some (.int (dSL x).1)) (mkH y m')) : Sm E n_X9_strikeLiars 0 (pl_entry 2 [.ref 92], [], mkH y m, 0, 0) Q := by
  obtain ⟨w, hw, ew⟩ := dLi_w (xS x).1 (xS x).2.2 (beg (lS (xS x))) (rend (lS (xS x))) 6 (by omega)
  have ew : dLiars (xS x) = nI w := ew
  refine pm_go (aX9_strikeLiars E) 100 rfl ?_
  conv => whnf
  refine ⟨trivial, m_liarsNow I hk (fun F' => ?_)⟩
  conv => whnf
  refine ⟨fun q => ?_, fun q => ?_⟩
  · have e : dSL x = _ := if_neg q
    rw [e, ew] at h
    obtain ⟨hC, loc, hl, hWM⟩ := I.2.2.2.1
    obtain ⟨dr, w1, w2, a1, a2, a3, a4, a5, a6, a7, a8⟩ := hWM
    have hWM : WM k (xS x).1 loc := ⟨dr, w1, w2, a1, a2, a3, a4, a5, a6, a7, a8⟩
    have hb := bitI w2 a6 w hw
    have f2 : mN m 2 = (nI w2).toInt64 := by rw [I.2.2.1.1.2.2.1, a5]
    have ev : mN m 2 ||| (dLiars (xS x)).toInt64 = (nI (w2 ||| w)).toInt64 := by rw [f2, ew]; exact hb.2.2
    rw [a5, hb.1] at h
    conv => whnf
    refine ⟨trivial, m_note (m := tF m F') I.2.2.2.2 I.2.2.2.1 I.2.2.1 (fun f' K' hP => ?_)⟩
    have hh := h (tN (tP (tF m F') f' K') (vp_updL (mN m) 2 (nI (w2 ||| w)).toInt64)) ⟨I.1, I.2.1, I.2.2.1.struck, ⟨hC, loc, hl, (hWM.struck hb.2.1).mono⟩, hP.mono⟩
    rw [← ev, ← ew] at hh
    conv => whnf
    refine ⟨inA (n := 2) (by decide) (by decide), ?_⟩
    conv => whnf
    refine ⟨inA (n := 2) (by decide) (by decide), ?_⟩
    conv => whnf
    refine ⟨trivial, m_ones ew hw ?_⟩
    conv => whnf
    refine ⟨trivial, ?_⟩
    exact hh
  · have e : dSL x = (-2, x) := if_pos q
    rw [e] at h
    conv => whnf
    exact ⟨trivial, h (tF m F') I.mono⟩
