/-! ===== the spans keep within bounds; the reference's find ===== -/
theorem i64_add {a b : Int64} (h1 : -4000000000000000000 ≤ a.toInt + b.toInt) (h2 : a.toInt + b.toInt ≤ 4000000000000000000) : (a + b).toInt = a.toInt + b.toInt := by
  rw [Int64.toInt_add]
  exact Int.bmod_eq_of_le (by omega) (by omega)
theorem i64_sub {a b : Int64} (h1 : -4000000000000000000 ≤ a.toInt - b.toInt) (h2 : a.toInt - b.toInt ≤ 4000000000000000000) : (a - b).toInt = a.toInt - b.toInt := by
  rw [Int64.toInt_sub]
  exact Int.bmod_eq_of_le (by omega) (by omega)
theorem sp_bd {k loc tt i : Nat} {M : zM} (hW : WM k M loc) (hk : k ≤ 512) (ht : loc ≤ tt) (ht2 : tt ≤ 2570000) (hi : i < 6) (hb : hB M (nI i)) : -1125899906842624 ≤ (fB M (nI i) (nI tt)).toInt ∧ (fB M (nI i) (nI tt)).toInt ≤ (fE M (nI i) (nI tt)).toInt ∧ (fE M (nI i) (nI tt)).toInt ≤ 1100000000000 := by
  obtain ⟨w1', w2', hw1', hw2', e1', e2', hh, -⟩ := hB_hw hW
  have hbit := (hh i hi).mp hb
  obtain ⟨dr, w1, w2, hdr, hdr2, h1, hw1, h2, hw2, hloc, hm⟩ := hW
  have ew : w1' = w1 := (nI_eq (by omega) (by omega)).mp (e1'.symm.trans h1)
  unfold hw at hbit
  rw [Bool.and_eq_true, ew] at hbit
  obtain ⟨⟨s1, s2, s3⟩, u, hu, eu⟩ := hm i hi hbit.1
  have cli : (nI i).toNatClampNeg = i := cl (by omega)
  have g0 := Int64.le_iff_toInt_le.mp s1
  have g1 := Int64.le_iff_toInt_le.mp s2
  have g2 := Int64.le_iff_toInt_le.mp s3
  have z0 : (0 : Int64).toInt = 0 := by decide
  have z12 : (1000000000000 : Int64).toInt = 1000000000000 := by decide
  rw [z0] at g0
  rw [z12] at g2
  have eG : fG M (nI i) (nI tt) = lN (tt - u) := by
    unfold fG
    rw [cli, eu, nI_l (by omega), nI_l (by omega), lN_sub (by omega)]
  have hmul : (tt - u) * dr ≤ 2570000 * 999999 := Nat.mul_le_mul (by omega) hdr2
  have eW : fW M (fG M (nI i) (nI tt)) = lN (((tt - u) * dr + 999999) / 1000000) := by
    unfold fW
    rw [eG, hdr, nI_l (by omega), i64_m1, lN_mul, show (999999 : Int64) = lN 999999 from rfl, show (1000000 : Int64) = lN 1000000 from rfl, lN_add, pk_lDiv (by omega) (by omega) (by omega)]
  have hmul2 : (tt - u) * dr ≤ (tt - u) * 999999 := Nat.mul_le_mul (Nat.le_refl _) hdr2
  have hwd : ((tt - u) * dr + 999999) / 1000000 ≤ 2570000 := by omega
  have tG : (lN (tt - u)).toInt = ((tt - u : Nat) : Int) := pk_lT (by omega)
  have tW : (lN (((tt - u) * dr + 999999) / 1000000)).toInt = ((((tt - u) * dr + 999999) / 1000000 : Nat) : Int) := pk_lT (by omega)
  generalize (lN (tt - u)) = gg at eG tG
  generalize (lN (((tt - u) * dr + 999999) / 1000000)) = ww at eW tW
  generalize ((tt - u) * dr + 999999) / 1000000 = wn at hwd tW
  have hgn : tt - u ≤ 2570000 := by omega
  generalize tt - u = gn at hgn tG
  have a1 : (M.1 i + gg).toInt = (M.1 i).toInt + gg.toInt := i64_add (by omega) (by omega)
  have a2 : (M.1 i + gg - ww).toInt = (M.1 i + gg).toInt - ww.toInt := i64_sub (by omega) (by omega)
  have a3 : (M.2.1 i + gg).toInt = (M.2.1 i).toInt + gg.toInt := i64_add (by omega) (by omega)
  have a4 : (M.2.1 i + gg + ww).toInt = (M.2.1 i + gg).toInt + ww.toInt := i64_add (by omega) (by omega)
  unfold fB fE
  rw [eW, eG, cli, a2, a1, a4, a3]
  omega
theorem spL_ok {k loc tt : Nat} {M : zM} (hW : WM k M loc) (hk : k ≤ 512) (ht : loc ≤ tt) (ht2 : tt ≤ 2570000) : ∀ i, i ≤ 6 → spOK (spL M (nI tt) i)
  | 0, _ => fun q hq => by cases hq
  | i + 1, hi => by
    unfold spL
    split
    · rename_i hb
      intro q hq
      rcases List.mem_append.mp hq with h | h
      · exact spL_ok hW hk ht ht2 i (by omega) q h
      · rw [List.mem_singleton.mp h]
        exact sp_bd hW hk ht ht2 (by omega) hb
    · exact spL_ok hW hk ht ht2 i (by omega)
theorem hB_told {k loc i : Nat} {M : zM} (hW : WM k M loc) (hi : i < 6) (hb : hB M (nI i)) : (M.2.2.2.1 >>> (nI i &&& 31)) &&& 1 = 1 := by
  obtain ⟨w1, w2, hw1, hw2, e1, e2, hh, -⟩ := hB_hw hW
  have hbit := (hh i hi).mp hb
  unfold hw at hbit
  rw [Bool.and_eq_true] at hbit
  rw [e1]
  exact (bit32 w1 hw1 i hi).mpr hbit.1
def FF (F : zF) (l : zR) : Prop := FR F l ∧ F.2.2.2.1 = nI (mst l) ∧ (l ≠ [] → F.2.2.2.2.1 = beg l ∧ F.2.2.2.2.2 = rend l)
theorem FR.push {F : zF} {l : zR} (h : FR F l) (h5 : l.length ≤ 5) (b e : Int64) : FR (vp_updL F.1 F.2.2.1.toNatClampNeg b, vp_updL F.2.1 F.2.2.1.toNatClampNeg e, F.2.2.1 + 1, F.2.2.2) (l ++ [(b, e)]) := by
  obtain ⟨h1, h2, h3⟩ := h
  have hc : F.2.2.1.toNatClampNeg = l.length := by rw [h1]; exact nI_clamp (by omega)
  refine ⟨?_, ?_, ?_⟩
  · show F.2.2.1 + 1 = _
    rw [h1, List.length_append]
    exact (nI_succ _).symm
  · rw [List.length_append]; simp; omega
  · intro j q hq
    show vp_updL F.1 _ b j = _ ∧ vp_updL F.2.1 _ e j = _
    rw [hc]
    unfold vp_updL
    by_cases hj : j = l.length
    · subst hj
      rw [List.getElem?_append_right (Nat.le_refl _)] at hq
      simp at hq
      subst hq
      simp
    · rw [if_neg hj, if_neg hj]
      refine h3 j q ?_
      by_cases hlt : j < l.length
      · rwa [List.getElem?_append_left hlt] at hq
      · rw [List.getElem?_eq_none (by rw [List.length_append]; simp; omega)] at hq
        cases hq
/-- the row's end, gone along -/
theorem l_while {E : pm_E} {Q : pm_Q} {y : zD} {m : zN} {t : Int64} {l : zR} {o3 o4 o5 : Option Value} (hl : spOK l) (hne : l ≠ []) : ∀ (n : Nat) (F : zF), FR F l → F.2.2.2.1 = nI (mst l) → F.2.2.2.2.1 = beg l → rowP l F.2.2.2.2.2.toInt → F.2.2.2.2.2.toInt ≤ 1100000000000 → -1125899906842624 ≤ F.2.2.2.2.2.toInt → (1100000000000 - F.2.2.2.2.2.toInt).toNat ≤ n → (∀ F', FF F' l → Q none (mkH y (tF m F'))) → Sm E n_X9_find 205 ([some (.ref 92), some (.long t), none, o3, o4, o5], [], mkH y (tF m F), 0, 0) Q := by
  intro n
  induction n with
  | zero =>
    intro F hF h1 h2 h3 h4 h5 hn h
    have e1 := i64_succ (e := F.2.2.2.2.2) (by omega) (by omega)
    have hm6 := mst_le hF.2.1
    have hc6 := cnt_le l (F.2.2.2.2.2 + 1)
    have hlen := hF.2.1
    have nc : ¬ cn l (F.2.2.2.2.2.toInt + 1) = mst l := by
      have hp := mst_pos hl hne
      rw [cn_zero (fun q hq hh => ?_)]
      · omega
      · have a := hI_iff.mp hh
        have b := hl q hq
        omega
    refine pm_lp (aX9_find E) 100 205 rfl ?_
    conv => whnf
    refine ⟨trivial, m_manyAt (m := tF m F) hF ?_⟩
    conv => whnf
    refine ⟨fun _ => ?_, fun q => ?_⟩
    · conv => whnf
      refine ⟨trivial, h F ⟨hF, h1, fun _ => ⟨h2, ?_⟩⟩⟩
      obtain ⟨r1, r2, r3, r4⟩ := rend_prop hl hne
      exact Int64.toInt_inj.mp (rowP_uniq h3 r1 nc r2)
    · have q' : nI (cnt l (F.2.2.2.2.2 + 1)) = nI (mst l) := by rw [← h1]; exact q
      have := (nI_eq (by omega) (by omega)).mp q'
      rw [cnt_cn, e1] at this
      exact absurd this nc
  | succ n ih =>
    intro F hF h1 h2 h3 h4 h5 hn h
    have e1 := i64_succ (e := F.2.2.2.2.2) (by omega) (by omega)
    have hm6 := mst_le hF.2.1
    have hc6 := cnt_le l (F.2.2.2.2.2 + 1)
    have hlen := hF.2.1
    refine pm_lp (aX9_find E) 100 205 rfl ?_
    conv => whnf
    refine ⟨trivial, m_manyAt (m := tF m F) hF ?_⟩
    conv => whnf
    refine ⟨fun q => ?_, fun q => ?_⟩
    · have nc : ¬ cn l (F.2.2.2.2.2.toInt + 1) = mst l := by
        intro z
        refine q ?_
        show nI (cnt l (F.2.2.2.2.2 + 1)) = F.2.2.2.1
        rw [h1, cnt_cn, e1, z]
      conv => whnf
      refine ⟨trivial, h F ⟨hF, h1, fun _ => ⟨h2, ?_⟩⟩⟩
      obtain ⟨r1, r2, r3, r4⟩ := rend_prop hl hne
      exact Int64.toInt_inj.mp (rowP_uniq h3 r1 nc r2)
    · have q' : nI (cnt l (F.2.2.2.2.2 + 1)) = nI (mst l) := by rw [← h1]; exact q
      have hc := (nI_eq (by omega) (by omega)).mp q'
      rw [cnt_cn, e1] at hc
      have hp := mst_pos hl hne
      obtain ⟨r, hr1, hr2⟩ := cn_pos (show 0 < cn l (F.2.2.2.2.2.toInt + 1) by omega)
      obtain ⟨s1, s2, s3⟩ := sTo_prop hl (t := F.2.2.2.2.2 + 1) ⟨r, hr1, by rw [hold_hI, e1]; exact hr2⟩
      rw [e1] at s1 s3
      conv => whnf
      refine ⟨trivial, m_same (m := tF m F) hF ?_⟩
      conv => whnf
      refine ⟨trivial, ?_⟩
      exact ih (F.1, F.2.1, F.2.2.1, F.2.2.2.1, F.2.2.2.2.1, sTo l (F.2.2.2.2.2 + 1)) hF h1 h2 ⟨by have := h3.1; show _ ≤ (sTo l _).toInt; omega, fun u u1 u2 => by
        by_cases hu : u ≤ F.2.2.2.2.2.toInt
        · exact h3.2 u u1 hu
        · rw [s3 u (by omega) u2]; exact hc⟩ s2 (by show _ ≤ (sTo l _).toInt; omega) (by show (1100000000000 - (sTo l _).toInt).toNat ≤ n; omega) h
theorem l_fnd2 {E : pm_E} {Q : pm_Q} {y : zD} {m : zN} {t : Int64} {l : zR} (hl : spOK l) (h : ∀ F', FF F' l → Q none (mkH y (tF m F'))) : ∀ (n i mo : Nat) (F : zF) (o4 o5 : Option Value), FR F l → F.2.2.2.1 = nI mo → i + n = l.length → mo ≤ 6 → (l ≠ [] → fnd l (mo, F.2.2.2.2.1) (l.drop i) = fnd l (0, 0) l) → (l = [] → mo = 0) → Sm E n_X9_find 76 ([some (.ref 92), some (.long t), none, some (.int (nI i)), o4, o5], [], mkH y (tF m F), 0, 0) Q := by
  intro n
  induction n with
  | zero =>
    intro i mo F o4 o5 hF hM hi hmo hd hz
    have hlen := hF.2.1
    refine pm_lp (aX9_find E) 100 76 rfl ?_
    conv => whnf
    refine ⟨fun _ => ?_, fun q => absurd (show F.2.2.1 ≤ nI i by rw [hF.1]; exact nI_le (by omega) (by omega)) q⟩
    conv => whnf
    refine ⟨fun q => ?_, fun q => ?_⟩
    · have q' : ¬ F.2.2.1 = 0 := q
      have hne : l ≠ [] := fun z => q' (by rw [hF.1, z]; rfl)
      have hd := hd hne
      rw [List.drop_eq_nil_of_le (by omega)] at hd
      have hd : (mo, F.2.2.2.2.1) = fnd l (0, 0) l := hd
      have em : mo = mst l := by show mo = (fnd l (0, 0) l).1; rw [← hd]
      have eb : F.2.2.2.2.1 = beg l := by show F.2.2.2.2.1 = (fnd l (0, 0) l).2; rw [← hd]
      obtain ⟨q, hq, eq⟩ := (beg_mem hl hne).1
      have hqb := hl q hq
      obtain ⟨s1, s2, s3⟩ := sTo_prop hl (t := F.2.2.2.2.1) ⟨q, hq, by rw [hold_hI, eb, eq]; exact hI_iff.mpr ⟨Int.le_refl _, hqb.2.1⟩⟩
      have bb := beg_bd hl hne
      rw [← eb] at bb
      have bm := (beg_mem hl hne).2
      rw [← eb] at bm
      conv => whnf
      refine ⟨trivial, m_same (m := tF m F) hF ?_⟩
      conv => whnf
      refine ⟨trivial, ?_⟩
      exact l_while (m := m) hl hne _ (F.1, F.2.1, F.2.2.1, F.2.2.2.1, F.2.2.2.2.1, sTo l F.2.2.2.2.1) hF (by show F.2.2.2.1 = _; rw [hM, em]) eb ⟨by rw [← eb]; exact s1, fun u u1 u2 => by rw [← eb] at u1; rw [s3 u u1 u2]; exact bm⟩ s2 (by show _ ≤ (sTo l F.2.2.2.2.1).toInt; omega) (Nat.le_refl _) h
    · have q' : F.2.2.1 = 0 := q
      have hnil : l = [] := by
        rw [hF.1] at q'
        have := (nI_eq (b := 0) (by omega) (by omega)).mp q'
        exact List.length_eq_zero_iff.mp this
      conv => whnf
      refine ⟨trivial, h F ⟨hF, ?_, fun z => absurd hnil z⟩⟩
      rw [hM, hz hnil, hnil]
      rfl
  | succ n ih =>
    intro i mo F o4 o5 hF hM hi hmo hd hz
    have hlt : i < l.length := by omega
    have hne : l ≠ [] := fun z => by rw [z] at hlt; simp at hlt
    have hlen := hF.2.1
    obtain ⟨e1, e2⟩ := hF.2.2 i _ (List.getElem?_eq_getElem hlt)
    have hcl : (nI i).toNatClampNeg = i := cl (by omega)
    have eb : F.1 (nI i).toNatClampNeg = l[i].1 := by rw [hcl]; exact e1
    have hc6 := cnt_le l l[i].1
    have hd := hd hne
    rw [drop_at hlt, fnd, ← eb] at hd
    rw [← eb] at hc6
    have take : ∀ mo' : Int32, mo' = nI (cnt l (F.1 (nI i).toNatClampNeg)) → (mo < cnt l (F.1 (nI i).toNatClampNeg) ∨ (cnt l (F.1 (nI i).toNatClampNeg) = mo ∧ F.1 (nI i).toNatClampNeg < F.2.2.2.2.1)) → ∀ o4 o5 : Option Value, Sm E n_X9_find 76 ([some (.ref 92), some (.long t), none, some (.int (nI i + 1)), o4, o5], [], mkH y (tF m (F.1, F.2.1, F.2.2.1, mo', F.1 (nI i).toNatClampNeg, F.2.2.2.2.2)), 0, 0) Q := by
      intro mo' hm' hc o4 o5
      subst hm'
      rw [if_pos hc] at hd
      have := ih (i + 1) (cnt l (F.1 (nI i).toNatClampNeg)) (F.1, F.2.1, F.2.2.1, nI (cnt l (F.1 (nI i).toNatClampNeg)), F.1 (nI i).toNatClampNeg, F.2.2.2.2.2) o4 o5 hF rfl (by omega) (by omega) (fun _ => hd) (fun z => absurd z hne)
      rw [nI_succ] at this
      exact this
    have leave : ¬ (mo < cnt l (F.1 (nI i).toNatClampNeg) ∨ (cnt l (F.1 (nI i).toNatClampNeg) = mo ∧ F.1 (nI i).toNatClampNeg < F.2.2.2.2.1)) → ∀ o4 o5 : Option Value, Sm E n_X9_find 76 ([some (.ref 92), some (.long t), none, some (.int (nI i + 1)), o4, o5], [], mkH y (tF m F), 0, 0) Q := by
      intro hc o4 o5
      rw [if_neg hc] at hd
      have := ih (i + 1) mo F o4 o5 hF hM (by omega) hmo (fun _ => hd) (fun z => absurd z hne)
      rw [nI_succ] at this
      exact this
    refine pm_lp (aX9_find E) 100 76 rfl ?_
    conv => whnf
    refine ⟨fun q => absurd (show F.2.2.1 ≤ nI i from q) (by rw [hF.1]; exact nI_ge hlt (by omega)), fun _ => ?_⟩
    conv => whnf
    refine ⟨hF.lt hlt, ?_⟩
    conv => whnf
    refine ⟨trivial, m_manyAt (m := tF m F) (t := F.1 (nI i).toNatClampNeg) hF ?_⟩
    conv => whnf
    refine ⟨fun q => ?_, fun q => ?_⟩
    · have q' : F.2.2.2.1 < nI (cnt l (F.1 (nI i).toNatClampNeg)) := q
      have q0 := q'
      rw [hM] at q'
      have hc : mo < cnt l (F.1 (nI i).toNatClampNeg) := (nI_ltI (by omega) (by omega)).mp q'
      conv => whnf
      refine ⟨fun z => absurd z (by decide), fun _ => ?_⟩
      conv => whnf
      refine ⟨hF.lt hlt, ?_⟩
      conv => whnf
      refine ⟨fun z => absurd q0 (Int32.not_lt.mpr z), fun _ => ?_⟩
      conv => whnf
      refine ⟨trivial, ?_⟩
      exact take _ rfl (Or.inl hc) _ _
    · have q' : ¬ F.2.2.2.1 < nI (cnt l (F.1 (nI i).toNatClampNeg)) := q
      have q0 := q'
      rw [hM] at q'
      have hn : ¬ mo < cnt l (F.1 (nI i).toNatClampNeg) := fun z => q' ((nI_ltI (by omega) (by omega)).mpr z)
      conv => whnf
      refine ⟨fun q2 => ?_, fun q2 => ?_⟩
      · have q2' : ¬ nI (cnt l (F.1 (nI i).toNatClampNeg)) = F.2.2.2.1 := q2
        conv => whnf
        refine ⟨fun _ => ?_, fun z => absurd rfl z⟩
        conv => whnf
        refine ⟨fun _ => ?_, fun z => absurd (Int32.not_lt.mp q0) z⟩
        conv => whnf
        refine ⟨trivial, leave (fun z => ?_) _ _⟩
        rcases z with z | z
        · exact hn z
        · exact q2' (by rw [hM, z.1])
      · have q2' : nI (cnt l (F.1 (nI i).toNatClampNeg)) = F.2.2.2.1 := q2
        have he : cnt l (F.1 (nI i).toNatClampNeg) = mo := by rw [hM] at q2'; exact (nI_eq (by omega) (by omega)).mp q2'
        conv => whnf
        refine ⟨hF.lt hlt, ?_⟩
        conv => whnf
        refine ⟨fun q3 => ?_, fun q3 => ?_⟩
        · conv => whnf
          refine ⟨fun _ => ?_, fun z => absurd rfl z⟩
          conv => whnf
          refine ⟨fun _ => ?_, fun z => absurd (Int32.not_lt.mp q0) z⟩
          conv => whnf
          refine ⟨trivial, leave (fun z => ?_) _ _⟩
          rcases z with z | z
          · exact hn z
          · exact Int64.not_lt.mpr q3 z.2
        · conv => whnf
          refine ⟨fun z => absurd z (by decide), fun _ => ?_⟩
          conv => whnf
          refine ⟨hF.lt hlt, ?_⟩
          conv => whnf
          refine ⟨fun _ => ?_, fun z => absurd (Int32.not_lt.mp q0) z⟩
          conv => whnf
          refine ⟨trivial, ?_⟩
          exact take F.2.2.2.1 q2'.symm (Or.inr ⟨he, Int64.not_le.mp q3⟩) _ _
theorem l_fnd1 {E : pm_E} {Q : pm_Q} {y : zD} {m : zN} {k loc tt : Nat} {S : zS} (hW : WM k S.1 loc) (hR : RS S (mN m)) (hk : k ≤ 512) (ht : loc ≤ tt) (ht2 : tt ≤ 2570000) (h : ∀ F', FF F' (lAt S (nI tt)) → Q none (mkH y (tF m F'))) : ∀ (n i : Nat) (F : zF), i + n = 6 → FR F (spL S.1 (nI tt) i) → Sm E n_X9_find 7 ([some (.ref 92), some (.long (nI tt).toInt64), none, some (.int (nI i)), none, none], [], mkH y (tF m F), 0, 0) Q := by
  intro n
  induction n with
  | zero =>
    intro i F hi hF
    obtain rfl : i = 6 := by omega
    have hl := spL_ok hW hk ht ht2 6 (by omega)
    refine pm_lp (aX9_find E) 100 7 rfl ?_
    conv => whnf
    refine ⟨fun _ => ?_, fun q => absurd (show (6 : Int32) ≤ nI 6 by decide) q⟩
    conv => whnf
    refine ⟨trivial, ?_⟩
    exact l_fnd2 (m := m) (t := (nI tt).toInt64) hl h _ 0 0 (F.1, F.2.1, F.2.2.1, 0, F.2.2.2.2.1, F.2.2.2.2.2) none none hF rfl (Nat.zero_add _) (by omega) (fun hne => by rw [List.drop_zero]; exact fnd_any hl hne _) (fun _ => rfl)
  | succ n ih =>
    intro i F hi hF
    have hlen := spL_len S.1 (nI tt) i
    have hin : vp_in F.2.2.1 6 := by rw [hF.1]; exact vp_in_nI (by omega) (by decide)
    refine pm_lp (aX9_find E) 100 7 rfl ?_
    conv => whnf
    refine ⟨fun q => absurd (show nI 6 ≤ nI i from q) (nI_ge (by omega) (by decide)), fun _ => ?_⟩
    conv => whnf
    refine ⟨trivial, m_isHeard (m := tF m F) (by omega) hW hR (fun hb => ?_) (fun hb => ?_)⟩
    · have htd := hB_told hW (by omega) hb
      conv => whnf
      refine ⟨fun q => absurd q (by decide), fun _ => ?_⟩
      conv => whnf
      refine ⟨trivial, m_span (m := tF m F) (by omega) hR htd (fun _ => ?_) (fun q => absurd rfl q)⟩
      conv => whnf
      refine ⟨hin, ?_⟩
      conv => whnf
      refine ⟨trivial, m_span (m := tF m (vp_updL F.1 F.2.2.1.toNatClampNeg (fB S.1 (nI i) (nI tt)), F.2)) (by omega) hR htd (fun q => absurd q (by decide)) (fun _ => ?_)⟩
      conv => whnf
      refine ⟨hin, ?_⟩
      conv => whnf
      refine ⟨trivial, ?_⟩
      have hp := hF.push (by omega) (fB S.1 (nI i) (nI tt)) (fE S.1 (nI i) (nI tt))
      have := ih (i + 1) _ (by omega) (by rw [spL, if_pos hb]; exact hp)
      rw [nI_succ] at this
      exact this
    · conv => whnf
      refine ⟨fun _ => ?_, fun q => absurd rfl q⟩
      conv => whnf
      refine ⟨trivial, ?_⟩
      have := ih (i + 1) F (by omega) (by rw [spL, if_neg hb]; exact hF)
      rw [nI_succ] at this
      exact this
theorem m_find {E : pm_E} {Q : pm_Q} {y : zD} {m : zN} {k loc tt : Nat} {S : zS} (hW : WM k S.1 loc) (hR : RS S (mN m)) (hk : k ≤ 512) (ht : loc ≤ tt) (ht2 : tt ≤ 2570000) (h : ∀ F', FF F' (lAt S (nI tt)) → Q none (mkH y (tF m F'))) : Sm E n_X9_find 0 (pl_entry 6 [.ref 92, .long (nI tt).toInt64], [], mkH y m, 0, 0) Q := by
  refine pm_go (aX9_find E) 100 rfl ?_
  conv => whnf
  refine ⟨trivial, ?_⟩
  exact l_fnd1 (m := m) hW hR hk ht ht2 h 6 0 ((mF m).1, (mF m).2.1, 0, (mF m).2.2.2) (by omega) ⟨rfl, Nat.zero_le _, fun j q hq => by simp [spL] at hq⟩
theorem FF.good {F : zF} {l : zR} (h : FF F l) : (F.2.2.1 < 2 * F.2.2.2.1) = okG l := by rw [h.1.1, h.2.1]
theorem m_good {E : pm_E} {Q : pm_Q} {y : zD} {m : zN} {l : zR} (hF : FF (mF m) l) (h1 : okG l → Q (some (.int 1)) (mkH y m)) (h0 : ¬ okG l → Q (some (.int 0)) (mkH y m)) : Sm E n_X9_isGood 0 (pl_entry 1 [.ref 92], [], mkH y m, 0, 0) Q := by
  rw [← hF.good] at h1 h0
  refine pm_go (aX9_isGood E) 100 rfl ?_
  conv => whnf
  refine ⟨fun q => ?_, fun q => ?_⟩
  · conv => whnf
    exact ⟨rfl, h0 (Int32.not_lt.mpr q)⟩
  · conv => whnf
    exact ⟨rfl, h1 (Int32.not_le.mp q)⟩
