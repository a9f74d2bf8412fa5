/-! ===== the reference: drift, write, wipe, the asking calls ===== -/
theorem d999 {d : Int32} (h : 0 ≤ d.toInt64 ∧ d.toInt64 ≤ 999999) : ∃ n : Nat, n ≤ 999999 ∧ d = nI n := by
  obtain ⟨j, hj, e⟩ := nI_of2 (x := d) (M := 999999) (n := 999999) (by decide) (fun z => Int32.not_lt.mpr (t64_le.mp (show (0 : Int32).toInt64 ≤ d.toInt64 from h.1)) z) (t64_le.mp (show d.toInt64 ≤ (999999 : Int32).toInt64 from h.2))
  exact ⟨j, hj, e⟩
theorem m_drift {E : pm_E} {Q : pm_Q} {x y : zD} {m : zN} {k : Nat} {d : Int32} (I : Inv k x m) (h : ∀ m', Inv (k + 1) (dDrift x d).2 m' → Q (some (.int (dDrift x d).1)) (mkH y m')) : Sm E n_X9_drift 0 (pl_entry 3 [.ref 92, .int d], [], mkH y m, 0, 0) Q := by
  refine pm_go (aX9_drift E) 100 rfl ?_
  conv => whnf
  refine ⟨trivial, m_within (fun q => ?_) (fun q => ?_)⟩
  · conv => whnf
    refine ⟨fun _ => ?_, fun z => absurd z (by decide)⟩
    have e : dDrift x d = _ := if_pos q
    rw [e] at h
    obtain ⟨n, hn, rfl⟩ := d999 q
    obtain ⟨hC, loc, hl, hWM⟩ := I.2.2.2.1
    have f1 := I.2.2.1.1.2.1
    conv => whnf
    refine ⟨inA (n := 1) (by decide) (by decide), ?_⟩
    conv => whnf
    refine ⟨fun q2 => ?_, fun q2 => ?_⟩
    · have q2' : ¬ mN m 1 = (nI n).toInt64 := q2
      have ne : ¬ (xS x).1.2.2.2.2.2 = nI n := fun z => q2' (by rw [f1, z])
      rw [if_neg ne] at h
      conv => whnf
      refine ⟨trivial, m_note I.2.2.2.2 I.2.2.2.1 I.2.2.1 (fun f' K' hP => ?_)⟩
      conv => whnf
      refine ⟨inA (n := 1) (by decide) (by decide), ?_⟩
      conv => whnf
      refine ⟨inA (n := 1) (by decide) (by decide), ?_⟩
      have hh := h (tN (tP m f' K') (vp_updL (mN m) 1 (nI n).toInt64)) ⟨I.1, I.2.1, I.2.2.1.drift, ⟨hC, loc, hl, (hWM.drift hn).mono⟩, hP.mono⟩
      have e2 : (mN m 1).toInt32 = (xS x).1.2.2.2.2.2 := by rw [f1]; exact t64_back _
      rw [← e2] at hh
      conv => whnf
      refine ⟨trivial, ?_⟩
      exact hh
    · have q2' : mN m 1 = (nI n).toInt64 := q2
      have ne : (xS x).1.2.2.2.2.2 = nI n := t64_inj.mp (by rw [← f1]; exact q2')
      rw [if_pos ne] at h
      conv => whnf
      exact ⟨trivial, h m I.mono⟩
  · conv => whnf
    refine ⟨fun z => absurd rfl z, fun _ => ?_⟩
    have e : dDrift x d = (-1, x) := if_neg q
    rw [e] at h
    conv => whnf
    exact ⟨trivial, h m I.mono⟩
theorem w32 {l : Int32} : (32 ≤ l.toInt64 ∧ l.toInt64 ≤ 126) ↔ ¬ (l < 32 ∨ 126 < l) := by
  rw [show (32 : Int64) = (32 : Int32).toInt64 by decide, show (126 : Int64) = (126 : Int32).toInt64 by decide, t64_le, t64_le, not_or, Int32.not_lt, Int32.not_lt]
theorem chr : ∀ a, a < 127 → vp_nar .char ((nI a).toUInt32 % 65536).toInt32 = nI a := by decide +kernel
theorem m_write {E : pm_E} {Q : pm_Q} {x y : zD} {m : zN} {k : Nat} {l : Int32} (I : Inv k x m) (h : ∀ m', Inv (k + 1) (dWrite x l).2 m' → Q (some (.int (dWrite x l).1)) (mkH y m')) : Sm E n_X9_write 0 (pl_entry 2 [.ref 92, .int l], [], mkH y m, 0, 0) Q := by
  obtain ⟨n, hn, hn2, hch⟩ := I.1.1
  have hz := I.1.2.1
  refine pm_go (aX9_write E) 100 rfl ?_
  conv => whnf
  refine ⟨trivial, m_within (fun q => ?_) (fun q => ?_)⟩
  · conv => whnf
    refine ⟨fun _ => ?_, fun z => absurd z (by decide)⟩
    have q' := w32.mp q
    have e : dWrite x l = _ := if_neg q'
    rw [e] at h
    conv => whnf
    refine ⟨fun q2 => ?_, fun q2 => ?_⟩
    · have q2' : ¬ mZ m = 200 := q2
      have n2 : n < 200 := by
        have : ¬ n = 200 := fun z => q2' (by rw [hz, hn, z]; rfl)
        omega
      have cn : (nI n).toNatClampNeg = n := cl (by omega)
      rw [if_pos (show (xT x).2 < 200 by rw [hn]; exact nI_lt (b := 200) n2 (by decide))] at h
      obtain ⟨a, ha, rfl⟩ : ∃ a : Nat, a < 127 ∧ l = nI a := by
        obtain ⟨j, hj, e⟩ := nI_of2 (x := l) (M := 126) (n := 126) (by decide) (fun z => q' (Or.inl (Int32.lt_trans z (by decide)))) (Int32.not_lt.mp (fun z => q' (Or.inr z)))
        exact ⟨j, by omega, e⟩
      rw [chr a ha] at h
      have hh := h (tX m (upd (mX m) (mZ m).toNatClampNeg (nI a)) (mZ m + 1)) ⟨⟨⟨n + 1, by show (xT x).2 + 1 = _; rw [hn]; exact nI_1 n, by omega, fun j hj => by
          show ∃ b : Nat, b < 128 ∧ upd (xT x).1 (xT x).2.toNatClampNeg (nI a) j = nI b
          rw [hn, cn]
          unfold upd
          by_cases u : j = n
          · rw [if_pos u]; exact ⟨a, by omega, rfl⟩
          · rw [if_neg u]; exact hch j (by omega)⟩, by show mZ m + 1 = (xT x).2 + 1; rw [hz], fun j hj => by
          have hj' : j < ((xT x).2 + 1).toNatClampNeg := hj
          rw [hn, nI_1, cl (by omega)] at hj'
          show upd (mX m) (mZ m).toNatClampNeg (nI a) j = upd (xT x).1 (xT x).2.toNatClampNeg (nI a) j
          rw [hz, hn, cn]
          unfold upd
          by_cases u : j = n
          · rw [if_pos u, if_pos u]
          · rw [if_neg u, if_neg u]
            exact I.1.2.2 j (by rw [hn, cn]; omega)⟩, I.2.1, I.2.2.1, I.2.2.2.1.mono, I.2.2.2.2.mono⟩
      rw [show (xT x).2 + 1 = mZ m + 1 by rw [hz]] at hh
      conv => whnf
      refine ⟨by show vp_in (mZ m) 200; rw [hz, hn]; exact inA n2 (by decide), ?_⟩
      conv => whnf
      refine ⟨trivial, ?_⟩
      exact hh
    · have q2' : mZ m = 200 := q2
      have e2 : ¬ (xT x).2 < 200 := by rw [← hz, q2']; decide
      rw [if_neg e2] at h
      conv => whnf
      exact ⟨trivial, h m I.mono⟩
  · conv => whnf
    refine ⟨fun z => absurd rfl z, fun _ => ?_⟩
    have e : dWrite x l = (-1, x) := if_pos (Classical.not_not.mp (fun z => q (w32.mpr z)))
    rw [e] at h
    conv => whnf
    exact ⟨trivial, h m I.mono⟩
theorem m_wipe {E : pm_E} {Q : pm_Q} {x y : zD} {m : zN} {k : Nat} (I : Inv k x m) (h : ∀ m', Inv (k + 1) (sT x ((xT x).1, 0)) m' → Q (some (.int (xT x).2)) (mkH y m')) : Sm E n_X9_wipe 0 (pl_entry 2 [.ref 92], [], mkH y m, 0, 0) Q := by
  have hz := I.1.2.1
  have hh := h (tX m (mX m) 0) ⟨⟨⟨0, rfl, by omega, fun j hj => absurd hj (Nat.not_lt_zero _)⟩, rfl, fun j hj => absurd hj (Nat.not_lt_zero _)⟩, I.2.1, I.2.2.1, I.2.2.2.1.mono, I.2.2.2.2.mono⟩
  rw [← hz] at hh
  refine pm_go (aX9_wipe E) 100 rfl ?_
  conv => whnf
  refine ⟨trivial, ?_⟩
  exact hh
theorem m_spanT {E : pm_E} {Q : pm_Q} {y : zD} {m : zN} {i : Nat} {S : zS} {w T : Int32} {T6 : Int64} (hT : T6 = T.toInt64) (hi : i < 6) (hR : RS S (mN m)) (ht : (S.1.2.2.2.1 >>> (nI i &&& 31)) &&& 1 = 1) (h0 : w = 0 → Q (some (.long (fB S.1 (nI i) T))) (mkH y m)) (h1 : ¬ w = 0 → Q (some (.long (fE S.1 (nI i) T))) (mkH y m)) : Sm E n_X9_spanOf 0 (pl_entry 10 [.ref 92, .int (nI i), .int w, .long T6], [], mkH y m, 0, 0) Q := by
  subst hT
  exact m_span hi hR ht h0 h1
theorem m_findT {E : pm_E} {Q : pm_Q} {y : zD} {m : zN} {k loc tt : Nat} {S : zS} {T6 : Int64} (hT : T6 = (nI tt).toInt64) (hW : WM k S.1 loc) (hR : RS S (mN m)) (hk : k ≤ 512) (ht : loc ≤ tt) (ht2 : tt ≤ 2570000) (h : ∀ F', FF F' (lAt S (nI tt)) → Q none (mkH y (tF m F'))) : Sm E n_X9_find 0 (pl_entry 6 [.ref 92, .long T6], [], mkH y m, 0, 0) Q := by
  subst hT
  exact m_find hW hR hk ht ht2 h
theorem m_findI {E : pm_E} {Q : pm_Q} {y : zD} {m : zN} {k : Nat} {S : zS} (hW : WF k S) (hR : RS S (mN m)) (hk : k ≤ 512) (h : ∀ F', FF F' (lS S) → Q none (mkH y (tF m F'))) : Sm E n_X9_find 0 (pl_entry 6 [.ref 92, .long (mN m 0)], [], mkH y m, 0, 0) Q := by
  obtain ⟨hC, loc, hl, hWM⟩ := hW
  have h7 : loc ≤ 5000 * k := by obtain ⟨dr, w1, w2, a1, a2, a3, a4, a5, a6, a7, a8⟩ := hWM; exact a7
  refine m_findT (tt := loc) (by rw [hR.1.1, hl]) hWM hR hk (Nat.le_refl _) (by omega) (fun F' hF => h F' ?_)
  show FF F' (lAt S S.2.2)
  rw [hl]
  exact hF
theorem m_spn {E : pm_E} {Q : pm_Q} {x y : zD} {m : zN} {k : Nat} {i w : Int32} (I : Inv k x m) (h : Q (some (.long (dSpan x i w))) (mkH y m)) : Sm E n_X9_span 0 (pl_entry 3 [.ref 92, .int i, .int w], [], mkH y m, 0, 0) Q := by
  have bad : ¬ (okM i ∧ 0 ≤ w ∧ w ≤ 1) → Q (some (.long (-2000000000000))) (mkH y m) := fun z' => by
    have e : dSpan x i w = -2000000000000 := if_neg z'
    rw [e] at h
    exact h
  refine pm_go (aX9_span E) 100 rfl ?_
  conv => whnf
  refine ⟨trivial, m_isMaster (fun q => ?_) (fun q => ?_)⟩
  · have hM := okM6.mp q
    conv => whnf
    refine ⟨fun z => absurd z (by decide), fun _ => ?_⟩
    conv => whnf
    refine ⟨trivial, m_within (fun q2 => ?_) (fun q2 => ?_)⟩
    · have hz := z01.mp q2
      conv => whnf
      refine ⟨fun _ => ?_, fun z => absurd z (by decide)⟩
      have e : dSpan x i w = _ := if_pos ⟨hM, hz⟩
      rw [e] at h
      obtain ⟨j, hj, rfl⟩ := okM_nI hM
      have c0 : ((4 : Int32) + 4 * nI j).toNatClampNeg = 4 + 4 * j := by rw [ix4]; exact cl (by omega)
      have ht := (I.2.2.1.2.1 j hj).1
      have f0 := I.2.2.1.1.1
      conv => whnf
      refine ⟨by rw [ix4]; exact inA (by omega) (by decide), ?_⟩
      conv => whnf
      refine ⟨fun q3 => ?_, fun q3 => ?_⟩
      · have q3' : ¬ mN m ((4 : Int32) + 4 * nI j).toNatClampNeg = 1 := q3
        rw [c0, ht] at q3'
        rw [if_neg (fun z => q3' (by rw [if_pos z]))] at h
        conv => whnf
        exact ⟨trivial, h⟩
      · have q3' : mN m ((4 : Int32) + 4 * nI j).toNatClampNeg = 1 := q3
        rw [c0, ht] at q3'
        have t1 : ((xS x).1.2.2.2.1 >>> (nI j &&& 31)) &&& 1 = 1 := by
          by_cases z : ((xS x).1.2.2.2.1 >>> (nI j &&& 31)) &&& 1 = 1
          · exact z
          · rw [if_neg z] at q3'
            exact absurd q3' (by decide)
        rw [if_pos t1] at h
        conv => whnf
        refine ⟨inA (n := 0) (by decide) (by decide), ?_⟩
        conv => whnf
        refine ⟨trivial, m_spanT (S := xS x) (T := (xS x).2.2) f0 hj I.2.2.1 t1 (fun u => ?_) (fun u => ?_)⟩
        · rw [if_pos u] at h
          conv => whnf
          exact ⟨trivial, h⟩
        · rw [if_neg u] at h
          conv => whnf
          exact ⟨trivial, h⟩
    · conv => whnf
      refine ⟨fun z => absurd rfl z, fun _ => ?_⟩
      conv => whnf
      exact ⟨trivial, bad (fun z => q2 (z01.mpr z.2))⟩
  · conv => whnf
    refine ⟨fun _ => ?_, fun z => absurd rfl z⟩
    conv => whnf
    exact ⟨trivial, bad (fun z => q (okM6.mpr z.1))⟩
theorem FF.ne {F : zF} {l : zR} (h : FF F l) (q : ¬ F.2.2.1 = 0) : l ≠ [] := fun z => q (by rw [h.1.1, z]; rfl)
theorem FF.len {F : zF} {l : zR} (h : FF F l) : l.length ≤ 6 := h.1.2.1
theorem m_agreed {E : pm_E} {Q : pm_Q} {x y : zD} {m : zN} {k : Nat} {w : Int32} (I : Inv k x m) (hk : k ≤ 512) (h : ∀ m', Inv k x m' → Q (some (.long (dAgreed (xS x) w))) (mkH y m')) : Sm E n_X9_agreed 0 (pl_entry 2 [.ref 92, .int w], [], mkH y m, 0, 0) Q := by
  refine pm_go (aX9_agreed E) 100 rfl ?_
  conv => whnf
  refine ⟨trivial, m_within (fun q => ?_) (fun q => ?_)⟩
  · have q' := z01.mp q
    have e : dAgreed (xS x) w = _ := if_neg (fun z => z.elim (fun u => Int32.not_lt.mpr q'.1 u) (fun u => Int32.not_lt.mpr q'.2 u))
    rw [e] at h
    conv => whnf
    refine ⟨fun _ => ?_, fun z => absurd z (by decide)⟩
    conv => whnf
    refine ⟨inA (n := 0) (by decide) (by decide), ?_⟩
    conv => whnf
    refine ⟨trivial, m_findI I.2.2.2.1 I.2.2.1 hk (fun F' hF => ?_)⟩
    have h := h (tF m F') I
    conv => whnf
    refine ⟨fun q2 => ?_, fun q2 => ?_⟩
    · have q2' : ¬ F'.2.2.1 = 0 := q2
      have hne := hF.ne q2'
      rw [if_neg (by rw [← hF.1.1]; exact q2')] at h
      conv => whnf
      refine ⟨fun q3 => ?_, fun q3 => ?_⟩
      · rw [if_neg q3, ← (hF.2.2 hne).2] at h
        conv => whnf
        exact ⟨trivial, h⟩
      · rw [if_pos q3, ← (hF.2.2 hne).1] at h
        conv => whnf
        exact ⟨trivial, h⟩
    · have q2' : F'.2.2.1 = 0 := q2
      rw [if_pos (by rw [← hF.1.1]; exact q2')] at h
      conv => whnf
      exact ⟨trivial, h⟩
  · have e : dAgreed (xS x) w = -2000000000000 := if_pos (Classical.not_not.mp (fun z => q (z01.mpr ⟨Int32.not_lt.mp (fun u => z (Or.inl u)), Int32.not_lt.mp (fun u => z (Or.inr u))⟩)))
    rw [e] at h
    conv => whnf
    refine ⟨fun z => absurd rfl z, fun _ => ?_⟩
    conv => whnf
    exact ⟨trivial, h m I⟩
theorem m_goodI {E : pm_E} {Q : pm_Q} {x y : zD} {m : zN} {k : Nat} (I : Inv k x m) (hk : k ≤ 512) (h : ∀ m', Inv k x m' → Q (some (.int (dGood (xS x)))) (mkH y m')) : Sm E n_X9_good 0 (pl_entry 1 [.ref 92], [], mkH y m, 0, 0) Q := by
  refine pm_go (aX9_good E) 100 rfl ?_
  conv => whnf
  refine ⟨inA (n := 0) (by decide) (by decide), ?_⟩
  conv => whnf
  refine ⟨trivial, m_findI I.2.2.2.1 I.2.2.1 hk (fun F' hF => ?_)⟩
  have h := h (tF m F') I
  conv => whnf
  refine ⟨trivial, m_good (m := tF m F') hF (fun q => ?_) (fun q => ?_)⟩
  · have e : dGood (xS x) = 1 := if_pos q
    rw [e] at h
    conv => whnf
    refine ⟨fun z => absurd z (by decide), fun _ => ?_⟩
    conv => whnf
    exact ⟨trivial, h⟩
  · have e : dGood (xS x) = 0 := if_neg q
    rw [e] at h
    conv => whnf
    refine ⟨fun _ => ?_, fun z => absurd rfl z⟩
    conv => whnf
    exact ⟨trivial, h⟩
theorem m_in {E : pm_E} {Q : pm_Q} {x y : zD} {m : zN} {k : Nat} {t : Int64} (I : Inv k x m) (hk : k ≤ 512) (h : ∀ m', Inv k x m' → Q (some (.int (dIn (xS x) t))) (mkH y m')) : Sm E n_X9_in 0 (pl_entry 3 [.ref 92, .long t], [], mkH y m, 0, 0) Q := by
  refine pm_go (aX9_in E) 100 rfl ?_
  conv => whnf
  refine ⟨trivial, m_within (fun q => ?_) (fun q => ?_)⟩
  · have e : dIn (xS x) t = _ := if_pos q
    rw [e] at h
    conv => whnf
    refine ⟨fun _ => ?_, fun z => absurd z (by decide)⟩
    conv => whnf
    refine ⟨inA (n := 0) (by decide) (by decide), ?_⟩
    conv => whnf
    refine ⟨trivial, m_findI I.2.2.2.1 I.2.2.1 hk (fun F' hF => ?_)⟩
    conv => whnf
    refine ⟨trivial, m_manyAt (m := tF m F') hF.1 ?_⟩
    conv => whnf
    exact ⟨trivial, h (tF m F') I⟩
  · have e : dIn (xS x) t = -1 := if_neg q
    rw [e] at h
    conv => whnf
    refine ⟨fun z => absurd rfl z, fun _ => ?_⟩
    conv => whnf
    exact ⟨trivial, h m I⟩
