/-! ===== spans of the reference ===== -/
theorem i64_m1 (a : Int64) : a + 1000000 - 1 = a + 999999 := by
  rw [Int64.sub_eq_add_neg, Int64.add_assoc]
  rfl
theorem m_span {E : pm_E} {Q : pm_Q} {y : zD} {m : zN} {i : Nat} {S : zS} {w T : Int32} (hi : i < 6) (hR : RS S (mN m)) (ht : (S.1.2.2.2.1 >>> (nI i &&& 31)) &&& 1 = 1) (h0 : w = 0 → Q (some (.long (fB S.1 (nI i) T))) (mkH y m)) (h1 : ¬ w = 0 → Q (some (.long (fE S.1 (nI i) T))) (mkH y m)) : Sm E n_X9_spanOf 0 (pl_entry 10 [.ref 92, .int (nI i), .int w, .long T.toInt64], [], mkH y m, 0, 0) Q := by
  obtain ⟨r1, r2, r3⟩ := (hR.2.1 i hi).2 ht
  have c1 : ((4 : Int32) + 4 * nI i + 1).toNatClampNeg = 4 + 4 * i + 1 := by rw [show (1 : Int32) = nI 1 from rfl, ix4k]; exact cl (by omega)
  have c2 : ((4 : Int32) + 4 * nI i + 2).toNatClampNeg = 4 + 4 * i + 2 := by rw [show (2 : Int32) = nI 2 from rfl, ix4k]; exact cl (by omega)
  have c3 : ((4 : Int32) + 4 * nI i + 3).toNatClampNeg = 4 + 4 * i + 3 := by rw [show (3 : Int32) = nI 3 from rfl, ix4k]; exact cl (by omega)
  have cli : (nI i).toNatClampNeg = i := cl (by omega)
  have eB : mN m ((4 : Int32) + 4 * nI i + 1).toNatClampNeg + (T.toInt64 - mN m ((4 : Int32) + 4 * nI i + 3).toNatClampNeg) - ((T.toInt64 - mN m ((4 : Int32) + 4 * nI i + 3).toNatClampNeg) * mN m 1 + 999999) / 1000000 = fB S.1 (nI i) T := by
    unfold fB fW fG
    rw [c1, c3, r1, r3, hR.1.2.1, cli, i64_m1]
  have eE : mN m ((4 : Int32) + 4 * nI i + 2).toNatClampNeg + (T.toInt64 - mN m ((4 : Int32) + 4 * nI i + 3).toNatClampNeg) + ((T.toInt64 - mN m ((4 : Int32) + 4 * nI i + 3).toNatClampNeg) * mN m 1 + 999999) / 1000000 = fE S.1 (nI i) T := by
    unfold fE fW fG
    rw [c2, c3, r2, r3, hR.1.2.1, cli, i64_m1]
  rw [← eB] at h0
  rw [← eE] at h1
  refine pm_go (aX9_spanOf E) 100 rfl ?_
  conv => whnf
  refine ⟨by rw [show (3 : Int32) = nI 3 from rfl, ix4k]; exact inA (by omega) (by decide), ?_⟩
  conv => whnf
  refine ⟨inA (n := 1) (by decide) (by decide), ?_⟩
  conv => whnf
  refine ⟨by decide, ?_⟩
  conv => whnf
  refine ⟨fun q => ?_, fun q => ?_⟩
  · conv => whnf
    refine ⟨by rw [show (2 : Int32) = nI 2 from rfl, ix4k]; exact inA (by omega) (by decide), ?_⟩
    conv => whnf
    exact ⟨trivial, h1 q⟩
  · conv => whnf
    refine ⟨by rw [show (1 : Int32) = nI 1 from rfl, ix4k]; exact inA (by omega) (by decide), ?_⟩
    conv => whnf
    exact ⟨trivial, h0 q⟩
def FR (F : zF) (l : zR) : Prop := F.2.2.1 = nI l.length ∧ l.length ≤ 6 ∧ ∀ (j : Nat) (q : Int64 × Int64), l[j]? = some q → F.1 j = q.1 ∧ F.2.1 j = q.2
theorem FR.lt {F : zF} {l : zR} (h : FR F l) {j : Nat} (hj : j < l.length) : vp_in (nI j) 6 := vp_in_nI (by have := h.2.1; omega) (by decide)
theorem l_manyAt {E : pm_E} {Q : pm_Q} {y : zD} {m : zN} {t : Int64} {l : zR} (hl : FR (mF m) l) : ∀ (n i c : Nat), i + n = l.length → Q (some (.int (nI (c + cnt (l.drop i) t)))) (mkH y m) → Sm E n_X9_manyAt 5 ([some (.ref 92), some (.long t), none, some (.int (nI c)), some (.int (nI i))], [], mkH y m, 0, 0) Q := by
  intro n
  induction n with
  | zero =>
    intro i c hi h
    have hlen := hl.2.1
    refine pm_lp (aX9_manyAt E) 100 5 rfl ?_
    conv => whnf
    refine ⟨fun q => ?_, fun q => absurd (show (mF m).2.2.1 ≤ nI i by rw [hl.1]; exact nI_le (by omega) (by omega)) q⟩
    conv => whnf
    refine ⟨trivial, ?_⟩
    rw [List.drop_eq_nil_of_le (by omega)] at h
    exact h
  | succ n ih =>
    intro i c hi h
    have hlt : i < l.length := by omega
    have hlen := hl.2.1
    obtain ⟨e1, e2⟩ := hl.2.2 i _ (List.getElem?_eq_getElem hlt)
    have hcl : (nI i).toNatClampNeg = i := cl (by omega)
    rw [drop_at hlt] at h
    refine pm_lp (aX9_manyAt E) 100 5 rfl ?_
    conv => whnf
    refine ⟨fun q => absurd (show (mF m).2.2.1 ≤ nI i from q) (by rw [hl.1]; exact nI_ge hlt (by omega)), fun _ => ?_⟩
    conv => whnf
    refine ⟨hl.lt hlt, ?_⟩
    conv => whnf
    refine ⟨hl.lt hlt, ?_⟩
    conv => whnf
    refine ⟨trivial, m_within (fun q => ?_) (fun q => ?_)⟩
    · have q1 : l[i].1 ≤ t := by rw [← e1, ← hcl]; exact q.1
      have q2 : t ≤ l[i].2 := by rw [← e2, ← hcl]; exact q.2
      rw [cnt_t (by simp [hold, q1, q2]), show c + (cnt (l.drop (i + 1)) t + 1) = (c + 1) + cnt (l.drop (i + 1)) t by omega] at h
      have := ih (i + 1) (c + 1) (by omega) h
      rw [nI_succ, nI_succ] at this
      conv => whnf
      refine ⟨fun z => absurd z (by decide), fun _ => ?_⟩
      conv => whnf
      exact ⟨trivial, this⟩
    · have hf : hold t l[i] = false := by
        cases hb : hold t l[i] with
        | false => rfl
        | true =>
          simp only [hold, Bool.and_eq_true, decide_eq_true_eq] at hb
          exact absurd ⟨by show (mF m).1 (nI i).toNatClampNeg ≤ t; rw [hcl, e1]; exact hb.1, by show t ≤ (mF m).2.1 (nI i).toNatClampNeg; rw [hcl, e2]; exact hb.2⟩ q
      rw [cnt_f hf] at h
      have := ih (i + 1) c (by omega) h
      rw [nI_succ] at this
      have e : nI c + 0 = nI c := Int32.add_zero _
      rw [← e] at this
      conv => whnf
      refine ⟨fun _ => ?_, fun z => absurd rfl z⟩
      conv => whnf
      exact ⟨trivial, this⟩
theorem m_manyAt {E : pm_E} {Q : pm_Q} {y : zD} {m : zN} {t : Int64} {l : zR} (hl : FR (mF m) l) (h : Q (some (.int (nI (cnt l t)))) (mkH y m)) : Sm E n_X9_manyAt 0 (pl_entry 5 [.ref 92, .long t], [], mkH y m, 0, 0) Q := by
  refine pm_go (aX9_manyAt E) 100 rfl ?_
  conv => whnf
  refine ⟨trivial, ?_⟩
  exact l_manyAt hl l.length 0 0 (by omega) (by rw [Nat.zero_add]; exact h)
def sE (t : Int64) (q : Int64 × Int64) : Int64 := if t < q.1 then q.1 - 1 else if t ≤ q.2 then q.2 else 9223372036854775807
def sT' (t : Int64) : Int64 → zR → Int64
  | acc, [] => acc
  | acc, q :: l => sT' t (if sE t q < acc then sE t q else acc) l
theorem l_same {E : pm_E} {Q : pm_Q} {y : zD} {m : zN} {t : Int64} {l : zR} (hl : FR (mF m) l) : ∀ (n i : Nat) (c : Int64) (o : Option Value), i + n = l.length → Q (some (.long (sT' t c (l.drop i)))) (mkH y m) → Sm E n_X9_sameTo 7 ([some (.ref 92), some (.long t), none, some (.long c), none, some (.int (nI i)), o, none], [], mkH y m, 0, 0) Q := by
  intro n
  induction n with
  | zero =>
    intro i c o hi h
    have hlen := hl.2.1
    refine pm_lp (aX9_sameTo E) 100 7 rfl ?_
    conv => whnf
    refine ⟨fun q => ?_, fun q => absurd (show (mF m).2.2.1 ≤ nI i by rw [hl.1]; exact nI_le (by omega) (by omega)) q⟩
    conv => whnf
    refine ⟨trivial, ?_⟩
    rw [List.drop_eq_nil_of_le (by omega)] at h
    exact h
  | succ n ih =>
    intro i c o hi h
    have hlt : i < l.length := by omega
    have hlen := hl.2.1
    obtain ⟨e1, e2⟩ := hl.2.2 i _ (List.getElem?_eq_getElem hlt)
    have hcl : (nI i).toNatClampNeg = i := cl (by omega)
    have f1 : (mF m).1 (nI i).toNatClampNeg = l[i].1 := by rw [hcl]; exact e1
    have f2 : (mF m).2.1 (nI i).toNatClampNeg = l[i].2 := by rw [hcl]; exact e2
    rw [drop_at hlt, sT'] at h
    unfold sE at h
    rw [← f1, ← f2] at h
    have nxt := fun (c2 : Int64) (o : Option Value) hh => ih (i + 1) c2 o (by omega) hh
    rw [nI_succ] at nxt
    refine pm_lp (aX9_sameTo E) 100 7 rfl ?_
    conv => whnf
    refine ⟨fun q => absurd (show (mF m).2.2.1 ≤ nI i from q) (by rw [hl.1]; exact nI_ge hlt (by omega)), fun _ => ?_⟩
    conv => whnf
    refine ⟨hl.lt hlt, ?_⟩
    conv => whnf
    refine ⟨fun q => ?_, fun q => ?_⟩
    · rw [if_neg (Int64.not_lt.mpr q)] at h
      conv => whnf
      refine ⟨hl.lt hlt, ?_⟩
      conv => whnf
      refine ⟨fun q2 => ?_, fun q2 => ?_⟩
      · rw [if_neg (Int64.not_le.mpr q2)] at h
        conv => whnf
        refine ⟨fun q3 => ?_, fun q3 => ?_⟩
        · rw [if_neg (Int64.not_lt.mpr q3)] at h
          conv => whnf
          exact ⟨trivial, nxt c (some (.long 9223372036854775807)) h⟩
        · rw [if_pos (Int64.not_le.mp q3)] at h
          conv => whnf
          exact ⟨trivial, nxt _ (some (.long 9223372036854775807)) h⟩
      · rw [if_pos (Int64.not_lt.mp q2)] at h
        conv => whnf
        refine ⟨hl.lt hlt, ?_⟩
        conv => whnf
        refine ⟨fun q3 => ?_, fun q3 => ?_⟩
        · have q3 : c ≤ (mF m).2.1 (nI i).toNatClampNeg := q3
          rw [if_neg (Int64.not_lt.mpr q3)] at h
          conv => whnf
          exact ⟨trivial, nxt c (some (.long ((mF m).2.1 (nI i).toNatClampNeg))) h⟩
        · have q3 : ¬ c ≤ (mF m).2.1 (nI i).toNatClampNeg := q3
          rw [if_pos (Int64.not_le.mp q3)] at h
          conv => whnf
          exact ⟨trivial, nxt _ (some (.long ((mF m).2.1 (nI i).toNatClampNeg))) h⟩
    · rw [if_pos (Int64.not_le.mp q)] at h
      conv => whnf
      refine ⟨hl.lt hlt, ?_⟩
      conv => whnf
      refine ⟨fun q3 => ?_, fun q3 => ?_⟩
      · have q3 : c ≤ (mF m).1 (nI i).toNatClampNeg - 1 := q3
        rw [if_neg (Int64.not_lt.mpr q3)] at h
        conv => whnf
        exact ⟨trivial, nxt c (some (.long ((mF m).1 (nI i).toNatClampNeg - 1))) h⟩
      · have q3 : ¬ c ≤ (mF m).1 (nI i).toNatClampNeg - 1 := q3
        rw [if_pos (Int64.not_le.mp q3)] at h
        conv => whnf
        exact ⟨trivial, nxt _ (some (.long ((mF m).1 (nI i).toNatClampNeg - 1))) h⟩
abbrev sTo (l : zR) (t : Int64) : Int64 := sT' t 9223372036854775807 l
theorem m_same {E : pm_E} {Q : pm_Q} {y : zD} {m : zN} {t : Int64} {l : zR} (hl : FR (mF m) l) (h : Q (some (.long (sTo l t))) (mkH y m)) : Sm E n_X9_sameTo 0 (pl_entry 8 [.ref 92, .long t], [], mkH y m, 0, 0) Q := by
  refine pm_go (aX9_sameTo E) 100 rfl ?_
  conv => whnf
  refine ⟨trivial, ?_⟩
  exact l_same hl l.length 0 _ none (by omega) h
