/-! ===== items of the text, and what is laid ===== -/
abbrev zX : Type := Int32 × Int64 × Int64 × Int64 × Int64
abbrev okD (a : Int64) : Prop := 0 ≤ a ∧ a ≤ 999999
abbrev okL (a : Int64) : Prop := 0 ≤ a ∧ a < 6
def pItem (c : Nat → Int32) (p : Nat) : Option (Nat × zX) :=
  if c p = 100 then (match pNM c (p + 1) 59 with
    | none => none
    | some (q, a) => if okD a then some (q, 100, a, 0, 0, 0) else none)
  else if c p = 109 then (match pNM c (p + 1) 44 with
    | none => none
    | some (q1, a) => match pNM c q1 44 with
      | none => none
      | some (q2, b) => match pNM c q2 59 with
        | none => none
        | some (q3, e) => if okL a ∧ okSpan b e then some (q3, 109, a, b, e, 0) else none)
  else if c p = 115 then (match pNM c (p + 1) 44 with
    | none => none
    | some (q1, a) => match pNM c q1 44 with
      | none => none
      | some (q2, b) => match pNM c q2 44 with
        | none => none
        | some (q3, e) => match pNM c q3 59 with
          | none => none
          | some (q4, d) => if okLeap a b e d then some (q4, 115, a, b, e, d) else none)
  else none
theorem pItem_ge {c : Nat → Int32} {p q : Nat} {t : zX} (h : pItem c p = some (q, t)) : p + 3 ≤ q ∧ q ≤ p + 81 := by
  unfold pItem at h
  split at h
  · split at h
    · cases h
    · rename_i q1 a h1
      have g1 := pNM_ge h1
      split at h
      · cases h
        dsimp only at g1
        omega
      · cases h
  split at h
  · split at h
    · cases h
    rename_i q1 a h1
    have g1 := pNM_ge h1
    split at h
    · cases h
    rename_i q2 b h2
    have g2 := pNM_ge h2
    split at h
    · cases h
    rename_i q3 e h3
    have g3 := pNM_ge h3
    split at h
    · cases h
      dsimp only at g1 g2 g3
      omega
    · cases h
  split at h
  · split at h
    · cases h
    rename_i q1 a h1
    have g1 := pNM_ge h1
    split at h
    · cases h
    rename_i q2 b h2
    have g2 := pNM_ge h2
    split at h
    · cases h
    rename_i q3 e h3
    have g3 := pNM_ge h3
    split at h
    · cases h
    rename_i q4 d h4
    have g4 := pNM_ge h4
    split at h
    · cases h
      dsimp only at g1 g2 g3 g4
      omega
    · cases h
  · cases h
theorem c_toldD {E : pm_E} {Q : pm_Q} {xt : zT} {xr : zS × zP × zA × zL} {nu : Nat → Int64} {bh : Int32} {m : List va_E} (h1 : okD (nu 0) → Q (some (.int 1)) (mkG (xt, (nu, 100, bh), xr) m)) (h0 : ¬ okD (nu 0) → Q (some (.int 0)) (mkG (xt, (nu, 100, bh), xr) m)) : Sm E n_X2_areNumbersTold 0 (pl_entry 2 [.ref 7], [], mkG (xt, (nu, 100, bh), xr) m, 0, 0) Q := by
  refine pm_go (aX2_areNumbersTold E) 100 rfl ?_
  conv => whnf
  refine ⟨fun z => absurd rfl z, fun _ => ?_⟩
  conv => whnf
  refine ⟨vp_in_nI (n := 0) (by decide) (by decide), ?_⟩
  conv => whnf
  refine ⟨trivial, c_isDrift (fun q => ?_) (fun q => ?_)⟩
  · conv => whnf
    exact ⟨rfl, h1 q⟩
  · conv => whnf
    exact ⟨rfl, h0 q⟩
theorem c_toldM {E : pm_E} {Q : pm_Q} {xt : zT} {xr : zS × zP × zA × zL} {nu : Nat → Int64} {bh : Int32} {m : List va_E} (h1 : okL (nu 0) ∧ okSpan (nu 1) (nu 2) → Q (some (.int 1)) (mkG (xt, (nu, 109, bh), xr) m)) (h0 : ¬ (okL (nu 0) ∧ okSpan (nu 1) (nu 2)) → Q (some (.int 0)) (mkG (xt, (nu, 109, bh), xr) m)) : Sm E n_X2_areNumbersTold 0 (pl_entry 2 [.ref 7], [], mkG (xt, (nu, 109, bh), xr) m, 0, 0) Q := by
  refine pm_go (aX2_areNumbersTold E) 100 rfl ?_
  conv => whnf
  refine ⟨fun _ => ?_, fun z => absurd z (by show ¬ (109 : Int32) = 100; decide)⟩
  conv => whnf
  refine ⟨fun z => absurd rfl z, fun _ => ?_⟩
  conv => whnf
  refine ⟨vp_in_nI (n := 0) (by decide) (by decide), ?_⟩
  conv => whnf
  refine ⟨trivial, c_isMaster (fun q => ?_) (fun q => ?_)⟩
  · conv => whnf
    refine ⟨fun z => absurd z (by decide), fun _ => ?_⟩
    conv => whnf
    refine ⟨vp_in_nI (n := 1) (by decide) (by decide), ?_⟩
    conv => whnf
    refine ⟨vp_in_nI (n := 2) (by decide) (by decide), ?_⟩
    conv => whnf
    refine ⟨trivial, c_isTold (fun q2 => ?_) (fun q2 => ?_)⟩
    · conv => whnf
      refine ⟨fun z => absurd z (by decide), fun _ => ?_⟩
      conv => whnf
      exact ⟨rfl, h1 ⟨q, q2⟩⟩
    · conv => whnf
      refine ⟨fun _ => ?_, fun z => absurd rfl z⟩
      conv => whnf
      exact ⟨rfl, h0 (fun z => q2 z.2)⟩
  · conv => whnf
    refine ⟨fun _ => ?_, fun z => absurd rfl z⟩
    conv => whnf
    exact ⟨rfl, h0 (fun z => q z.1)⟩
theorem c_toldS {E : pm_E} {Q : pm_Q} {xt : zT} {xr : zS × zP × zA × zL} {nu : Nat → Int64} {bh : Int32} {m : List va_E} (h1 : okLeap (nu 0) (nu 1) (nu 2) (nu 3) → Q (some (.int 1)) (mkG (xt, (nu, 115, bh), xr) m)) (h0 : ¬ okLeap (nu 0) (nu 1) (nu 2) (nu 3) → Q (some (.int 0)) (mkG (xt, (nu, 115, bh), xr) m)) : Sm E n_X2_areNumbersTold 0 (pl_entry 2 [.ref 7], [], mkG (xt, (nu, 115, bh), xr) m, 0, 0) Q := by
  refine pm_go (aX2_areNumbersTold E) 100 rfl ?_
  conv => whnf
  refine ⟨fun _ => ?_, fun z => absurd z (by show ¬ (115 : Int32) = 100; decide)⟩
  conv => whnf
  refine ⟨fun _ => ?_, fun z => absurd z (by show ¬ (115 : Int32) = 109; decide)⟩
  conv => whnf
  refine ⟨fun z => absurd rfl z, fun _ => ?_⟩
  conv => whnf
  refine ⟨vp_in_nI (n := 0) (by decide) (by decide), ?_⟩
  conv => whnf
  refine ⟨vp_in_nI (n := 1) (by decide) (by decide), ?_⟩
  conv => whnf
  refine ⟨vp_in_nI (n := 2) (by decide) (by decide), ?_⟩
  conv => whnf
  refine ⟨vp_in_nI (n := 3) (by decide) (by decide), ?_⟩
  conv => whnf
  refine ⟨trivial, c_isLeap (fun q => ?_) (fun q => ?_)⟩
  · conv => whnf
    refine ⟨fun z => absurd z (by decide), fun _ => ?_⟩
    conv => whnf
    exact ⟨rfl, h1 q⟩
  · conv => whnf
    refine ⟨fun _ => ?_, fun z => absurd rfl z⟩
    conv => whnf
    exact ⟨rfl, h0 q⟩
theorem c_toldN {E : pm_E} {Q : pm_Q} {xt : zT} {xr : zS × zP × zA × zL} {nu : Nat → Int64} {k bh : Int32} {m : List va_E} (n1 : ¬ k = 100) (n2 : ¬ k = 109) (n3 : ¬ k = 115) (h0 : Q (some (.int 0)) (mkG (xt, (nu, k, bh), xr) m)) : Sm E n_X2_areNumbersTold 0 (pl_entry 2 [.ref 7], [], mkG (xt, (nu, k, bh), xr) m, 0, 0) Q := by
  refine pm_go (aX2_areNumbersTold E) 100 rfl ?_
  conv => whnf
  refine ⟨fun _ => ?_, fun z => absurd z n1⟩
  conv => whnf
  refine ⟨fun _ => ?_, fun z => absurd z n2⟩
  conv => whnf
  refine ⟨fun _ => ?_, fun z => absurd z n3⟩
  conv => whnf
  exact ⟨rfl, h0⟩
def hmN (k : Int32) : Int32 := if k = 100 then 1 else if k = 109 then 3 else if k = 115 then 4 else 0
theorem c_hmN {E : pm_E} {Q : pm_Q} {x : zD} {m : List va_E} (h : Q (some (.int (hmN (xI x).2.1))) (mkG x m)) : Sm E n_X2_howManyNumbers 0 (pl_entry 1 [.ref 7], [], mkG x m, 0, 0) Q := by
  unfold hmN at h
  refine pm_go (aX2_howManyNumbers E) 100 rfl ?_
  conv => whnf
  refine ⟨fun q => ?_, fun q => ?_⟩
  · rw [if_neg q] at h
    conv => whnf
    refine ⟨fun q2 => ?_, fun q2 => ?_⟩
    · rw [if_neg q2] at h
      conv => whnf
      refine ⟨fun q3 => ?_, fun q3 => ?_⟩
      · rw [if_neg q3] at h
        conv => whnf
        exact ⟨trivial, h⟩
      · rw [if_pos q3] at h
        conv => whnf
        exact ⟨trivial, h⟩
    · rw [if_pos q2] at h
      conv => whnf
      exact ⟨trivial, h⟩
  · rw [if_pos q] at h
    conv => whnf
    exact ⟨trivial, h⟩
/-- one number taken, at the loop's head: i of w -/
theorem l_one {E : pm_E} {Q : pm_Q} {xt : zT} {xr : zS × zP × zA × zL} {nu : Nat → Int64} {k : Int32} {m : List va_E} {p pl i w : Nat} {mk : Int32} {o5 : Option Value} (hT : okX xt) (hp : p < 500) (hi : i < w) (hw : w ≤ 4) (hmk : mk = if i + 1 < w then 44 else 59)
    (h1 : ∀ q v, pNM (ch xt) p mk = some (q, v) → Sm E n_X2_takeFrom 24 ([some (.ref 7), some (.ref 5), some (.int (nI pl)), some (.int (nI w)), some (.int (nI (i + 1))), some (.int mk)], [], mkG (xt, (vp_updL nu i v, k, nI q), xr) m, 0, 0) Q)
    (h0 : pNM (ch xt) p mk = none → ∀ I' : zI, Q (some (.int 0)) (mkG (xt, I', xr) m)) :
    Sm E n_X2_takeFrom 24 ([some (.ref 7), some (.ref 5), some (.int (nI pl)), some (.int (nI w)), some (.int (nI i)), o5], [], mkG (xt, (nu, k, nI p), xr) m, 0, 0) Q := by
  have hcl : (nI i).toNatClampNeg = i := nI_clamp (by omega)
  by_cases hl : i + 1 < w
  · rw [if_pos hl] at hmk
    subst hmk
    refine pm_lp (aX2_takeFrom E) 100 24 rfl ?_
    conv => whnf
    refine ⟨fun q => absurd q (nI_ge hi (by omega)), fun _ => ?_⟩
    conv => whnf
    refine ⟨fun q => absurd (show nI 4 ≤ nI i from q) (nI_ge (by omega) (by decide)), fun _ => ?_⟩
    conv => whnf
    refine ⟨fun q => absurd (show nI w ≤ nI (i + 1) by rw [nI_succ]; exact q) (nI_ge hl (by omega)), fun _ => ?_⟩
    conv => whnf
    refine ⟨trivial, c_num (x := (xt, (nu, k, nI p), xr)) hT hp (vp_in_nI (by omega) (by decide)) rfl (fun q v hq => ?_) (fun hq I' => ?_)⟩
    · have h1 := h1 q v hq
      rw [nI_succ] at h1
      rw [hcl]
      conv => whnf
      refine ⟨fun _ => ?_, fun z => absurd z (by decide)⟩
      conv => whnf
      exact ⟨trivial, h1⟩
    · conv => whnf
      refine ⟨fun z => absurd rfl z, fun _ => ?_⟩
      conv => whnf
      exact ⟨rfl, h0 hq I'⟩
  · rw [if_neg hl] at hmk
    subst hmk
    refine pm_lp (aX2_takeFrom E) 100 24 rfl ?_
    conv => whnf
    refine ⟨fun q => absurd q (nI_ge hi (by omega)), fun _ => ?_⟩
    conv => whnf
    refine ⟨fun q => absurd (show nI 4 ≤ nI i from q) (nI_ge (by omega) (by decide)), fun _ => ?_⟩
    conv => whnf
    refine ⟨fun _ => ?_, fun q => absurd (show nI w ≤ nI i + 1 by rw [← nI_succ]; exact nI_le (by omega) (by omega)) q⟩
    conv => whnf
    refine ⟨trivial, c_num (x := (xt, (nu, k, nI p), xr)) hT hp (vp_in_nI (by omega) (by decide)) rfl (fun q v hq => ?_) (fun hq I' => ?_)⟩
    · have h1 := h1 q v hq
      rw [nI_succ] at h1
      rw [hcl]
      conv => whnf
      refine ⟨fun _ => ?_, fun z => absurd z (by decide)⟩
      conv => whnf
      exact ⟨trivial, h1⟩
    · conv => whnf
      refine ⟨fun z => absurd rfl z, fun _ => ?_⟩
      conv => whnf
      exact ⟨rfl, h0 hq I'⟩
/-- all numbers taken -/
theorem l_out {E : pm_E} {Q : pm_Q} {x : zD} {m : List va_E} {pl w : Nat} {o5 : Option Value} (hw : w ≤ 4) (h : Sm E n_X2_areNumbersTold 0 (pl_entry 2 [.ref 7], [], mkG x m, 0, 0) (fun r h' => ∃ v : Int32, (r = some (.int v) ∧ (v = 0 ∨ v = 1)) ∧ Q (some (.int v)) h')) : Sm E n_X2_takeFrom 24 ([some (.ref 7), some (.ref 5), some (.int (nI pl)), some (.int (nI w)), some (.int (nI w)), o5], [], mkG x m, 0, 0) Q := by
  refine pm_lp (aX2_takeFrom E) 100 24 rfl ?_
  conv => whnf
  refine ⟨fun _ => ?_, fun q => absurd (nI_le (Nat.le_refl w) (by omega)) q⟩
  conv => whnf
  refine ⟨trivial, h.mono ?_⟩
  rintro r t ⟨v, ⟨rfl, hv⟩, hq⟩
  conv => whnf
  rcases hv with rfl | rfl
  · exact ⟨rfl, hq⟩
  · exact ⟨rfl, hq⟩
/-- what an item's numbers are -/
def itR (nu : Nat → Int64) (t : zX) : Prop := (t.1 = 100 → nu 0 = t.2.1) ∧ (t.1 = 109 → nu 0 = t.2.1 ∧ nu 1 = t.2.2.1 ∧ nu 2 = t.2.2.2.1) ∧ (t.1 = 115 → nu 0 = t.2.1 ∧ nu 1 = t.2.2.1 ∧ nu 2 = t.2.2.2.1 ∧ nu 3 = t.2.2.2.2)
theorem c_take {E : pm_E} {Q : pm_Q} {x : zD} {m : List va_E} {p : Nat} (hT : okX (xT x)) (hp : p < 200)
    (h1 : ∀ q t nu, pItem (ch (xT x)) p = some (q, t) → itR nu t → Q (some (.int 1)) (mkG (sI x (nu, t.1, nI q)) m)) (h0 : pItem (ch (xT x)) p = none → ∀ I', Q (some (.int 0)) (mkG (sI x I') m)) :
    Sm E n_X2_takeFrom 0 (pl_entry 6 [.ref 7, .ref 5, .int (nI p)], [], mkG x m, 0, 0) Q := by
  obtain ⟨xt, ⟨nu, kd, bh⟩, xr⟩ := x
  have hfit := ch_nar hT p
  refine pm_go (aX2_takeFrom E) 100 rfl ?_
  conv => whnf
  refine ⟨trivial, c_letter (x := (xt, (nu, kd, bh), xr)) hT (by omega) ?_⟩
  conv => whnf
  refine ⟨hfit, ?_⟩
  conv => whnf
  refine ⟨trivial, c_hmN (x := (xt, (nu, ch xt p, nI p + 1), xr)) ?_⟩
  rw [← nI_succ]
  conv => whnf
  refine ⟨trivial, ?_⟩
  have h1 : ∀ q t nu, pItem (ch xt) p = some (q, t) → itR nu t → Q (some (.int 1)) (mkG (xt, (nu, t.1, nI q), xr) m) := h1
  have h0 : pItem (ch xt) p = none → ∀ I', Q (some (.int 0)) (mkG (xt, I', xr) m) := h0
  show Sm E n_X2_takeFrom 24 ([some (.ref 7), some (.ref 5), some (.int (nI p)), some (.int (hmN (ch xt p))), some (.int (nI 0)), none], [], mkG (xt, (nu, ch xt p, nI (p + 1)), xr) m, 0, 0) Q
  by_cases kD : ch xt p = 100
  · rw [show hmN (ch xt p) = nI 1 by rw [kD]; decide]
    unfold pItem at h1 h0
    rw [if_pos kD] at h1 h0
    refine l_one (mk := 59) hT (by omega) (by omega) (by omega) rfl (fun q v hq => ?_) (fun hq I' => h0 (by rw [hq]) I')
    rw [hq] at h1 h0
    dsimp only at h1 h0
    refine l_out (x := (xt, (vp_updL nu 0 v, ch xt p, nI q), xr)) (by omega) ?_
    rw [kD]
    refine c_toldD (fun z => ⟨1, ⟨rfl, Or.inr rfl⟩, ?_⟩) (fun z => ⟨0, ⟨rfl, Or.inl rfl⟩, ?_⟩)
    · have z : okD v := z
      rw [if_pos z] at h1
      exact h1 q _ _ rfl ⟨fun _ => rfl, fun e => absurd e (show ¬ (100 : Int32) = 109 by decide), fun e => absurd e (show ¬ (100 : Int32) = 115 by decide)⟩
    · have z : ¬ okD v := z
      rw [if_neg z] at h0
      exact h0 rfl _
  by_cases kM : ch xt p = 109
  · rw [show hmN (ch xt p) = nI 3 by rw [kM]; decide]
    unfold pItem at h1 h0
    rw [if_neg kD, if_pos kM] at h1 h0
    refine l_one (mk := 44) hT (by omega) (by omega) (by omega) rfl (fun q1 v1 hq1 => ?_) (fun hq I' => h0 (by rw [hq]) I')
    rw [hq1] at h1 h0
    dsimp only at h1 h0
    have g1 := pNM_ge hq1
    refine l_one (mk := 44) hT (by dsimp only at g1; omega) (by omega) (by omega) rfl (fun q2 v2 hq2 => ?_) (fun hq I' => h0 (by rw [hq]) I')
    rw [hq2] at h1 h0
    dsimp only at h1 h0
    have g2 := pNM_ge hq2
    refine l_one (mk := 59) hT (by dsimp only at g1 g2; omega) (by omega) (by omega) rfl (fun q3 v3 hq3 => ?_) (fun hq I' => h0 (by rw [hq]) I')
    rw [hq3] at h1 h0
    dsimp only at h1 h0
    refine l_out (x := (xt, (vp_updL (vp_updL (vp_updL nu 0 v1) 1 v2) 2 v3, ch xt p, nI q3), xr)) (by omega) ?_
    rw [kM]
    refine c_toldM (fun z => ⟨1, ⟨rfl, Or.inr rfl⟩, ?_⟩) (fun z => ⟨0, ⟨rfl, Or.inl rfl⟩, ?_⟩)
    · have z : okL v1 ∧ okSpan v2 v3 := z
      rw [if_pos z] at h1
      exact h1 q3 _ _ rfl ⟨fun e => absurd e (show ¬ (109 : Int32) = 100 by decide), fun _ => ⟨rfl, rfl, rfl⟩, fun e => absurd e (show ¬ (109 : Int32) = 115 by decide)⟩
    · have z : ¬ (okL v1 ∧ okSpan v2 v3) := z
      rw [if_neg z] at h0
      exact h0 rfl _
  by_cases kS : ch xt p = 115
  · rw [show hmN (ch xt p) = nI 4 by rw [kS]; decide]
    unfold pItem at h1 h0
    rw [if_neg kD, if_neg kM, if_pos kS] at h1 h0
    refine l_one (mk := 44) hT (by omega) (by omega) (by omega) rfl (fun q1 v1 hq1 => ?_) (fun hq I' => h0 (by rw [hq]) I')
    rw [hq1] at h1 h0
    dsimp only at h1 h0
    have g1 := pNM_ge hq1
    refine l_one (mk := 44) hT (by dsimp only at g1; omega) (by omega) (by omega) rfl (fun q2 v2 hq2 => ?_) (fun hq I' => h0 (by rw [hq]) I')
    rw [hq2] at h1 h0
    dsimp only at h1 h0
    have g2 := pNM_ge hq2
    refine l_one (mk := 44) hT (by dsimp only at g1 g2; omega) (by omega) (by omega) rfl (fun q3 v3 hq3 => ?_) (fun hq I' => h0 (by rw [hq]) I')
    rw [hq3] at h1 h0
    dsimp only at h1 h0
    have g3 := pNM_ge hq3
    refine l_one (mk := 59) hT (by dsimp only at g1 g2 g3; omega) (by omega) (by omega) rfl (fun q4 v4 hq4 => ?_) (fun hq I' => h0 (by rw [hq]) I')
    rw [hq4] at h1 h0
    dsimp only at h1 h0
    refine l_out (x := (xt, (vp_updL (vp_updL (vp_updL (vp_updL nu 0 v1) 1 v2) 2 v3) 3 v4, ch xt p, nI q4), xr)) (by omega) ?_
    rw [kS]
    refine c_toldS (fun z => ⟨1, ⟨rfl, Or.inr rfl⟩, ?_⟩) (fun z => ⟨0, ⟨rfl, Or.inl rfl⟩, ?_⟩)
    · have z : okLeap v1 v2 v3 v4 := z
      rw [if_pos z] at h1
      exact h1 q4 _ _ rfl ⟨fun e => absurd e (show ¬ (115 : Int32) = 100 by decide), fun e => absurd e (show ¬ (115 : Int32) = 109 by decide), fun _ => ⟨rfl, rfl, rfl, rfl⟩⟩
    · have z : ¬ okLeap v1 v2 v3 v4 := z
      rw [if_neg z] at h0
      exact h0 rfl _
  · rw [show hmN (ch xt p) = nI 0 by unfold hmN; rw [if_neg kD, if_neg kM, if_neg kS]; rfl]
    unfold pItem at h0
    rw [if_neg kD, if_neg kM, if_neg kS] at h0
    refine l_out (x := (xt, (nu, ch xt p, nI (p + 1)), xr)) (by omega) ?_
    exact c_toldN kD kM kS ⟨0, ⟨rfl, Or.inl rfl⟩, h0 rfl _⟩

def pFault (c : Nat → Int32) (n : Nat) : Nat → Nat → Int32
  | 0, _ => -4
  | k + 1, p => if n ≤ p then -4 else match pItem c p with
    | none => nI p
    | some (q, _) => pFault c n k q
theorem l_fault {E : pm_E} {Q : pm_Q} {x : zD} {m : List va_E} {n : Nat} (hT : okX (xT x)) (hn : (xT x).2 = nI n) (hn2 : n ≤ 200) : ∀ (k i p : Nat) (I : zI), i + k = 200 → p ≤ 300 → (∀ I', Q (some (.int (pFault (ch (xT x)) n k p))) (mkG (sI x I') m)) → Sm E n_X8_fault 4 ([some (.ref 4), some (.int (nI p)), some (.int (nI i))], [], mkG (sI x I) m, 0, 0) Q := by
  intro k
  induction k with
  | zero =>
    intro i p I hi hp h
    obtain rfl : i = 200 := by omega
    refine pm_lp (aX8_fault E) 100 4 rfl ?_
    conv => whnf
    refine ⟨fun _ => ?_, fun q => absurd (show (200 : Int32) ≤ nI 200 by decide) q⟩
    conv => whnf
    exact ⟨trivial, h I⟩
  | succ k ih =>
    intro i p I hi hp h
    rw [pFault] at h
    refine pm_lp (aX8_fault E) 100 4 rfl ?_
    conv => whnf
    refine ⟨fun q => absurd (show nI 200 ≤ nI i from q) (nI_ge (by omega) (by decide)), fun _ => ?_⟩
    conv => whnf
    refine ⟨fun q => ?_, fun q => ?_⟩
    · have q' : nI n ≤ nI p := by rw [← hn]; exact q
      rw [if_pos ((nI_leI (by omega) (by omega)).mp q')] at h
      conv => whnf
      exact ⟨trivial, h I⟩
    · have q' : ¬ nI n ≤ nI p := by rw [← hn]; exact q
      have hpn : ¬ n ≤ p := fun z => q' (nI_le z (by omega))
      rw [if_neg hpn] at h
      conv => whnf
      refine ⟨trivial, c_take (x := sI x I) hT (by omega) (fun q1 t nu hq hr => ?_) (fun hq I' => ?_)⟩
      · have hq : pItem (ch (xT x)) p = some (q1, t) := hq
        rw [hq] at h
        dsimp only at h
        have g := pItem_ge hq
        conv => whnf
        refine ⟨fun _ => ?_, fun z => absurd z (by decide)⟩
        conv => whnf
        refine ⟨trivial, ?_⟩
        have := ih (i + 1) q1 (nu, t.1, nI q1) (by omega) (by omega) h
        rw [nI_succ] at this
        exact this
      · have hq : pItem (ch (xT x)) p = none := hq
        rw [hq] at h
        conv => whnf
        refine ⟨fun z => absurd rfl z, fun _ => ?_⟩
        conv => whnf
        exact ⟨trivial, h I'⟩
abbrev dFault (T : zT) : Int32 := pFault (ch T) T.2.toNatClampNeg 200 0
theorem d_fault {E : pm_E} {Q : pm_Q} {x : zD} {m : List va_E} (hT : okX (xT x)) (h : ∀ I', Q (some (.int (dFault (xT x)))) (mkG (sI x I') m)) : Sm E n_X8_fault 0 (pl_entry 3 [.ref 4], [], mkG x m, 0, 0) Q := by
  obtain ⟨n, h1, h2, h3⟩ := id hT
  have hc : (xT x).2.toNatClampNeg = n := by rw [h1]; exact nI_clamp (by omega)
  unfold dFault at h
  rw [hc] at h
  refine pm_go (aX8_fault E) 100 rfl ?_
  conv => whnf
  refine ⟨trivial, ?_⟩
  exact l_fault (x := x) hT h1 h2 200 0 0 (xI x) (by omega) (by omega) h
def dItem (s : zS × zL) (t : zX) : zS × zL := if t.1 = 100 then ((((s.1.1.1, s.1.1.2.1, s.1.1.2.2.1, s.1.1.2.2.2.1, s.1.1.2.2.2.2.1, t.2.1.toInt32), s.1.2) : zS), s.2) else if t.1 = 109 then ((dHear s.1.1 t.2.1.toInt32 t.2.2.1 t.2.2.2.1 0, s.1.2), s.2) else (s.1, t.2.1, t.2.2.1, t.2.2.2.1, t.2.2.2.2)
theorem pItem_ok {c : Nat → Int32} {p q : Nat} {t : zX} (h : pItem c p = some (q, t)) : (t.1 = 100 ∧ okD t.2.1) ∨ (t.1 = 109 ∧ okL t.2.1 ∧ okSpan t.2.2.1 t.2.2.2.1) ∨ (t.1 = 115 ∧ okLeap t.2.1 t.2.2.1 t.2.2.2.1 t.2.2.2.2) := by
  unfold pItem at h
  split at h
  · split at h
    · cases h
    · split at h
      · rename_i z
        cases h
        exact Or.inl ⟨rfl, z⟩
      · cases h
  split at h
  · split at h
    · cases h
    split at h
    · cases h
    split at h
    · cases h
    split at h
    · rename_i z
      cases h
      exact Or.inr (Or.inl ⟨rfl, z⟩)
    · cases h
  split at h
  · split at h
    · cases h
    split at h
    · cases h
    split at h
    · cases h
    split at h
    · cases h
    split at h
    · rename_i z
      cases h
      exact Or.inr (Or.inr ⟨rfl, z⟩)
    · cases h
  · cases h
theorem okL_in {a : Int64} (h : okL a) : vp_in a.toInt32 6 := by
  have h1 := Int64.le_iff_toInt_le.mp h.1
  have h2 := Int64.lt_iff_toInt_lt.mp h.2
  have e0 : (0 : Int64).toInt = 0 := by decide
  have e6 : (6 : Int64).toInt = 6 := by decide
  rw [e0] at h1
  rw [e6] at h2
  refine vp_in_iff.mpr ?_
  rw [Int64.toInt_toInt32]
  rw [Int.bmod_eq_of_le (by omega) (by omega)]
  omega
theorem c_item {E : pm_E} {Q : pm_Q} {x : zD} {m : List va_E} {nu : Nat → Int64} {bh : Int32} {t : zX} (hok : (t.1 = 100 ∧ okD t.2.1) ∨ (t.1 = 109 ∧ okL t.2.1 ∧ okSpan t.2.2.1 t.2.2.2.1) ∨ (t.1 = 115 ∧ okLeap t.2.1 t.2.2.1 t.2.2.2.1 t.2.2.2.2)) (hr : itR nu t) (h : Q none (mkG (sI (sL (sS x (dItem (xS x, xL x) t).1) (dItem (xS x, xL x) t).2) (nu, t.1, bh)) m)) : Sm E n_X8_layItem 0 (pl_entry 2 [.ref 4], [], mkG (sI x (nu, t.1, bh)) m, 0, 0) Q := by
  obtain ⟨k, a, b, e, d⟩ := t
  obtain ⟨hr1, hr2, hr3⟩ := hr
  dsimp only at hok hr1 hr2 hr3 h ⊢
  rcases hok with ⟨rfl, z⟩ | ⟨rfl, z⟩ | ⟨rfl, z⟩
  · obtain rfl := hr1 rfl
    refine pm_go (aX8_layItem E) 100 rfl ?_
    conv => whnf
    refine ⟨fun z => absurd rfl z, fun _ => ?_⟩
    conv => whnf
    refine ⟨vp_in_nI (n := 0) (by decide) (by decide), ?_⟩
    conv => whnf
    exact ⟨trivial, h⟩
  · obtain ⟨rfl, rfl, rfl⟩ := hr2 rfl
    refine pm_go (aX8_layItem E) 100 rfl ?_
    conv => whnf
    refine ⟨fun _ => ?_, fun z => absurd z (show ¬ (109 : Int32) = 100 by decide)⟩
    conv => whnf
    refine ⟨fun z => absurd rfl z, fun _ => ?_⟩
    conv => whnf
    refine ⟨vp_in_nI (n := 0) (by decide) (by decide), ?_⟩
    conv => whnf
    refine ⟨vp_in_nI (n := 1) (by decide) (by decide), ?_⟩
    conv => whnf
    refine ⟨vp_in_nI (n := 2) (by decide) (by decide), ?_⟩
    conv => whnf
    refine ⟨trivial, c_hear (x := sI x (nu, 109, bh)) (okL_in z.1) ?_⟩
    conv => whnf
    exact ⟨trivial, h⟩
  · obtain ⟨rfl, rfl, rfl, rfl⟩ := hr3 rfl
    refine pm_go (aX8_layItem E) 100 rfl ?_
    conv => whnf
    refine ⟨fun _ => ?_, fun z => absurd z (show ¬ (115 : Int32) = 100 by decide)⟩
    conv => whnf
    refine ⟨fun _ => ?_, fun z => absurd z (show ¬ (115 : Int32) = 109 by decide)⟩
    conv => whnf
    refine ⟨vp_in_nI (n := 0) (by decide) (by decide), ?_⟩
    conv => whnf
    refine ⟨vp_in_nI (n := 1) (by decide) (by decide), ?_⟩
    conv => whnf
    refine ⟨vp_in_nI (n := 2) (by decide) (by decide), ?_⟩
    conv => whnf
    refine ⟨vp_in_nI (n := 3) (by decide) (by decide), ?_⟩
    conv => whnf
    refine ⟨trivial, c_set (x := sI x (nu, 115, bh)) ?_⟩
    conv => whnf
    exact ⟨trivial, h⟩
def dItems (c : Nat → Int32) (n : Nat) : Nat → Nat → zS × zL → zS × zL
  | 0, _, s => s
  | k + 1, p, s => if n ≤ p then s else match pItem c p with
    | none => s
    | some (q, t) => dItems c n k q (dItem s t)
theorem l_items {E : pm_E} {Q : pm_Q} {x : zD} {m : List va_E} {n : Nat} (hT : okX (xT x)) (hn : (xT x).2 = nI n) (hn2 : n ≤ 200) : ∀ (k i p : Nat) (I : zI) (s : zS × zL), i + k = 200 → p ≤ 300 → (∀ I', Q none (mkG (sI (sL (sS x (dItems (ch (xT x)) n k p s).1) (dItems (ch (xT x)) n k p s).2) I') m)) → Sm E n_X8_layItems 26 ([some (.ref 4), some (.int (nI p)), some (.int (nI i))], [], mkG (sI (sL (sS x s.1) s.2) I) m, 0, 0) Q := by
  intro k
  induction k with
  | zero =>
    intro i p I s hi hp h
    obtain rfl : i = 200 := by omega
    refine pm_lp (aX8_layItems E) 100 26 rfl ?_
    conv => whnf
    refine ⟨fun _ => ?_, fun q => absurd (show (200 : Int32) ≤ nI 200 by decide) q⟩
    conv => whnf
    exact ⟨trivial, h I⟩
  | succ k ih =>
    intro i p I s hi hp h
    rw [dItems] at h
    refine pm_lp (aX8_layItems E) 100 26 rfl ?_
    conv => whnf
    refine ⟨fun q => absurd (show nI 200 ≤ nI i from q) (nI_ge (by omega) (by decide)), fun _ => ?_⟩
    conv => whnf
    refine ⟨fun q => ?_, fun q => ?_⟩
    · have q' : nI n ≤ nI p := by rw [← hn]; exact q
      rw [if_pos ((nI_leI (by omega) (by omega)).mp q')] at h
      conv => whnf
      exact ⟨trivial, h I⟩
    · have q' : ¬ nI n ≤ nI p := by rw [← hn]; exact q
      have hpn : ¬ n ≤ p := fun z => q' (nI_le z (by omega))
      rw [if_neg hpn] at h
      conv => whnf
      refine ⟨trivial, c_take (x := sI (sL (sS x s.1) s.2) I) hT (by omega) (fun q1 t nu hq hr => ?_) (fun hq I' => ?_)⟩
      · have hq : pItem (ch (xT x)) p = some (q1, t) := hq
        rw [hq] at h
        dsimp only at h
        have g := pItem_ge hq
        conv => whnf
        refine ⟨fun _ => ?_, fun z => absurd z (by decide)⟩
        conv => whnf
        refine ⟨trivial, c_item (x := sL (sS x s.1) s.2) (nu := nu) (bh := nI q1) (t := t) (pItem_ok hq) hr ?_⟩
        conv => whnf
        refine ⟨trivial, ?_⟩
        have := ih (i + 1) q1 (nu, t.1, nI q1) (dItem s t) (by omega) (by omega) h
        rw [nI_succ] at this
        exact this
      · have hq : pItem (ch (xT x)) p = none := hq
        rw [hq] at h
        conv => whnf
        refine ⟨fun z => absurd rfl z, fun _ => ?_⟩
        conv => whnf
        exact ⟨trivial, h I'⟩
theorem c_mclear {E : pm_E} {Q : pm_Q} {x : zD} {m : List va_E} (h : Q none (mkG (sS x (((xS x).1.1, (xS x).1.2.1, (xS x).1.2.2.1, 0, 0, 1000), (xS x).2)) m)) : Sm E n_X4_clear 0 (pl_entry 1 [.ref 10], [], mkG x m, 0, 0) Q := by
  refine pm_go (aX4_clear E) 100 rfl ?_
  conv => whnf
  exact ⟨trivial, h⟩
theorem c_cclear {E : pm_E} {Q : pm_Q} {x : zD} {m : List va_E} (h : Q none (mkG (sC x ((xC x).1, (xC x).2.1, (xC x).2.2.1, (xC x).2.2.2.1, (xC x).2.2.2.2.1, 0, 0)) m)) : Sm E n_X1_clear 0 (pl_entry 1 [.ref 14], [], mkG x m, 0, 0) Q := by
  refine pm_go (aX1_clear E) 100 rfl ?_
  conv => whnf
  exact ⟨trivial, h⟩
def dClear (S : zS) : zS := ((S.1.1, S.1.2.1, S.1.2.2.1, 0, 0, 1000), (S.2.1.1, S.2.1.2.1, S.2.1.2.2.1, S.2.1.2.2.2.1, S.2.1.2.2.2.2.1, 0, 0), 0)
theorem c_sclear {E : pm_E} {Q : pm_Q} {x : zD} {m : List va_E} (h : Q none (mkG (sS x (dClear (xS x))) m)) : Sm E n_X6_clear 0 (pl_entry 1 [.ref 9], [], mkG x m, 0, 0) Q := by
  refine pm_go (aX6_clear E) 100 rfl ?_
  conv => whnf
  refine ⟨trivial, c_mclear (x := x) ?_⟩
  conv => whnf
  refine ⟨trivial, c_cclear (x := sS x (((xS x).1.1, (xS x).1.2.1, (xS x).1.2.2.1, 0, 0, 1000), (xS x).2)) ?_⟩
  conv => whnf
  exact ⟨trivial, h⟩
theorem c_lclear {E : pm_E} {Q : pm_Q} {x : zD} {m : List va_E} (h : Q none (mkG (sL x (1000, 1, 100, 0)) m)) : Sm E n_X3_clear 0 (pl_entry 1 [.ref 91], [], mkG x m, 0, 0) Q := by
  refine pm_go (aX3_clear E) 100 rfl ?_
  conv => whnf
  refine ⟨trivial, c_set (x := x) ?_⟩
  conv => whnf
  exact ⟨trivial, h⟩
abbrev dLaid (T : zT) (S : zS) : zS × zL := dItems (ch T) T.2.toNatClampNeg 200 0 (dClear S, 1000, 1, 100, 0)
def dLays (x : zD) : zD := sP (sL (sS x (dLaid (xT x) (xS x)).1) (dLaid (xT x) (xS x)).2) ((xP x).1, (xP x).2.1, 0)
theorem d_layItems {E : pm_E} {Q : pm_Q} {x : zD} {m : List va_E} (hT : okX (xT x)) (h : ∀ I', Q none (mkG (sI (dLays x) I') m)) : Sm E n_X8_layItems 0 (pl_entry 3 [.ref 4], [], mkG x m, 0, 0) Q := by
  obtain ⟨n, h1, h2, h3⟩ := id hT
  have hc : (xT x).2.toNatClampNeg = n := by rw [h1]; exact nI_clamp (by omega)
  unfold dLays dLaid at h
  rw [hc] at h
  refine pm_go (aX8_layItems E) 100 rfl ?_
  conv => whnf
  refine ⟨trivial, c_sclear (x := x) ?_⟩
  conv => whnf
  refine ⟨trivial, c_lclear (x := sP (sS x (dClear (xS x))) ((xP x).1, (xP x).2.1, 0)) ?_⟩
  conv => whnf
  refine ⟨trivial, ?_⟩
  exact l_items (x := sP x ((xP x).1, (xP x).2.1, 0)) hT h1 h2 200 0 0 (xI x) (dClear (xS x), 1000, 1, 100, 0) (by omega) (by omega) h
def dLay (x : zD) : Int32 × zD := if dFault (xT x) = -4 then (nHd (xS (dLays x)).1, dLays x) else (-2, x)
theorem d_lay {E : pm_E} {Q : pm_Q} {x : zD} {m : List va_E} (hT : okX (xT x)) (h : ∀ I', Q (some (.int (dLay x).1)) (mkG (sI (dLay x).2 I') m)) : Sm E n_X8_lay 0 (pl_entry 1 [.ref 4], [], mkG x m, 0, 0) Q := by
  unfold dLay at h
  refine pm_go (aX8_lay E) 100 rfl ?_
  conv => whnf
  refine ⟨trivial, d_fault (x := x) hT (fun I' => ?_)⟩
  conv => whnf
  refine ⟨fun q => ?_, fun q => ?_⟩
  · rw [if_pos q] at h
    conv => whnf
    refine ⟨trivial, d_layItems (x := sI x I') hT (fun I2 => ?_)⟩
    conv => whnf
    refine ⟨trivial, c_many (x := sI (dLays (sI x I')) I2) ?_⟩
    conv => whnf
    exact ⟨trivial, h I2⟩
  · rw [if_neg q] at h
    conv => whnf
    exact ⟨trivial, h I'⟩
