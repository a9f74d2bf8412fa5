/-! ===== the law's loop ===== -/
theorem w_in {k j L : Nat} {v : Int32} (hv : v = nI j) (hj : j < 6) (hL : 6 * k + 6 ≤ L) (hL2 : L ≤ 3072) : vp_in (nI (6 * k) + v) L := by
  rw [hv, nI_add]
  exact vp_in_nI (by omega) (by omega)
set_option maxRecDepth 100000 in
theorem w_step {E : pm_E} {Q : pm_Q} {x : zD} {m : zN} {k : Nat} (hL : 6 * k + 6 ≤ pm_L E) (hL2 : pm_L E ≤ 3072) (I : Inv k x m) (nxt : ∀ x' m', Inv (k + 1) x' m' → Sm E 0 980 ([some (.ref 0), some (.ref 4), some (.ref 92), some (.int (nI (6 * k)))], [], mkH x' m', 97, 2142) Q) : Sm E 0 18 ([some (.ref 0), some (.ref 4), some (.ref 92), some (.int (nI (6 * k)))], [], mkH x m, 97, 2142) Q := by
  have v0 : vp_in (nI (6 * k)) (pm_L E) := vp_in_nI (by omega) (by omega)
  have v1 : vp_in (nI (6 * k) + 1) (pm_L E) := w_in (j := 1) rfl (by omega) hL hL2
  have v2 : vp_in (nI (6 * k) + 2) (pm_L E) := w_in (j := 2) rfl (by omega) hL hL2
  have v3 : vp_in (nI (6 * k) + 3) (pm_L E) := w_in (j := 3) rfl (by omega) hL hL2
  have v4 : vp_in (nI (6 * k) + 4) (pm_L E) := w_in (j := 4) rfl (by omega) hL hL2
  have v5 : vp_in (nI (6 * k) + 5) (pm_L E) := w_in (j := 5) rfl (by omega) hL hL2
  have vq : ¬ nI (pm_L E) - 6 < nI (6 * k) := by
    rw [show (6 : Int32) = nI 6 from rfl, nI_sub (by omega)]
    intro z
    exact absurd (nI_le (show 6 * k ≤ pm_L E - 6 by omega) (by omega)) (Int32.not_le.mpr z)
  obtain ⟨s, hs, hs2, -⟩ := id I.1.1
  refine pm_lp (aL_law E) 100 18 rfl ?_
  conv => whnf
  refine ⟨fun q => absurd q vq, fun _ => ?_⟩
  conv => whnf
  refine ⟨v0, ?_⟩
  conv => whnf
  refine ⟨fun j t hj hw => ?_, fun hw => ?_⟩
  · clear hw
    match j, hj with
    | 0, hj =>
      cases hj
      conv => whnf
      refine ⟨v1, ?_⟩
      conv => whnf
      refine ⟨trivial, d_write hs hs2 (x := x) (m := hM m) ?_⟩
      conv => whnf
      refine ⟨v1, ?_⟩
      conv => whnf
      refine ⟨trivial, m_write I (fun m' J => ?_)⟩
      conv => whnf
      refine ⟨fun _ => ?_, fun z => absurd rfl z⟩
      conv => whnf
      exact ⟨trivial, nxt (dWrite x _).2 m' J⟩
    | 1, hj =>
      cases hj
      conv => whnf
      refine ⟨trivial, d_wipe (x := x) (m := hM m) ?_⟩
      conv => whnf
      refine ⟨trivial, m_wipe I (fun m' J => ?_)⟩
      conv => whnf
      refine ⟨fun _ => ?_, fun z => absurd rfl z⟩
      conv => whnf
      exact ⟨trivial, nxt (sT x ((xT x).1, 0)) m' J⟩
    | 2, hj =>
      cases hj
      conv => whnf
      refine ⟨trivial, d_fault I.1.1 (x := x) (m := hM m) (fun I' => ?_)⟩
      conv => whnf
      refine ⟨trivial, m_fault I (fun m' J => ?_)⟩
      conv => whnf
      refine ⟨fun _ => ?_, fun z => absurd rfl z⟩
      conv => whnf
      exact ⟨trivial, nxt (sI x I') m' J.mono⟩
    | 3, hj =>
      cases hj
      conv => whnf
      refine ⟨trivial, d_lay I.1.1 (x := x) (m := hM m) (fun I' => ?_)⟩
      conv => whnf
      refine ⟨trivial, m_lay I (fun m' J => ?_)⟩
      conv => whnf
      refine ⟨fun _ => ?_, fun z => absurd rfl z⟩
      conv => whnf
      exact ⟨trivial, nxt (sI (dLay x).2 I') m' J⟩
    | 4, hj =>
      cases hj
      conv => whnf
      refine ⟨v1, ?_⟩
      conv => whnf
      refine ⟨v2, ?_⟩
      conv => whnf
      refine ⟨v3, ?_⟩
      conv => whnf
      refine ⟨v4, ?_⟩
      conv => whnf
      refine ⟨v5, ?_⟩
      conv => whnf
      refine ⟨trivial, d_tell I.2.2.2.2.ok (x := x) (m := hM m) ?_⟩
      conv => whnf
      refine ⟨v1, ?_⟩
      conv => whnf
      refine ⟨v2, ?_⟩
      conv => whnf
      refine ⟨v3, ?_⟩
      conv => whnf
      refine ⟨v4, ?_⟩
      conv => whnf
      refine ⟨v5, ?_⟩
      conv => whnf
      refine ⟨trivial, m_tell I (fun m' J => ?_)⟩
      conv => whnf
      refine ⟨fun _ => ?_, fun z => absurd rfl z⟩
      conv => whnf
      exact ⟨trivial, nxt _ m' J⟩
    | 5, hj =>
      cases hj
      conv => whnf
      refine ⟨v1, ?_⟩
      conv => whnf
      refine ⟨v2, ?_⟩
      conv => whnf
      refine ⟨trivial, d_strike I.2.2.2.2.ok (x := x) (m := hM m) ?_⟩
      conv => whnf
      refine ⟨v1, ?_⟩
      conv => whnf
      refine ⟨v2, ?_⟩
      conv => whnf
      refine ⟨trivial, m_strike I (fun m' J => ?_)⟩
      conv => whnf
      refine ⟨fun _ => ?_, fun z => absurd rfl z⟩
      conv => whnf
      exact ⟨trivial, nxt _ m' J⟩
    | 6, hj =>
      cases hj
      conv => whnf
      refine ⟨trivial, d_strikeLiars I.2.2.2.2.ok (x := x) (m := hM m) (fun A' => ?_)⟩
      conv => whnf
      refine ⟨trivial, m_strikeLiars I (by omega) (fun m' J => ?_)⟩
      conv => whnf
      refine ⟨fun _ => ?_, fun z => absurd rfl z⟩
      conv => whnf
      exact ⟨trivial, nxt (sA (dSL x).2 A') m' J⟩
    | 7, hj =>
      cases hj
      conv => whnf
      refine ⟨v1, ?_⟩
      conv => whnf
      refine ⟨trivial, d_drift I.2.2.2.2.ok (x := x) (m := hM m) ?_⟩
      conv => whnf
      refine ⟨v1, ?_⟩
      conv => whnf
      refine ⟨trivial, m_drift I (fun m' J => ?_)⟩
      conv => whnf
      refine ⟨fun _ => ?_, fun z => absurd rfl z⟩
      conv => whnf
      exact ⟨trivial, nxt _ m' J⟩
    | 8, hj =>
      cases hj
      conv => whnf
      refine ⟨v1, ?_⟩
      conv => whnf
      refine ⟨trivial, d_go I.2.2.2.2.ok I.2.2.2.1.1.ok (x := x) (m := hM m) (fun A' => ?_)⟩
      conv => whnf
      refine ⟨v1, ?_⟩
      conv => whnf
      refine ⟨trivial, m_go I (by omega) (fun m' J => ?_)⟩
      conv => whnf
      refine ⟨fun _ => ?_, fun z => absurd rfl z⟩
      conv => whnf
      exact ⟨trivial, nxt (sA (dGo x _).2 A') m' J⟩
    | 9, hj =>
      cases hj
      conv => whnf
      refine ⟨trivial, d_undo I.2.2.2.2.ok (x := x) (m := hM m) ?_⟩
      conv => whnf
      refine ⟨trivial, m_undo I (fun m' J => ?_)⟩
      conv => whnf
      refine ⟨fun _ => ?_, fun z => absurd rfl z⟩
      conv => whnf
      exact ⟨trivial, nxt _ m' J⟩
    | 10, hj =>
      cases hj
      conv => whnf
      refine ⟨v1, ?_⟩
      conv => whnf
      refine ⟨v2, ?_⟩
      conv => whnf
      refine ⟨trivial, d_span (x := x) (m := hM m) ?_⟩
      conv => whnf
      refine ⟨v1, ?_⟩
      conv => whnf
      refine ⟨v2, ?_⟩
      conv => whnf
      refine ⟨trivial, m_spn I ?_⟩
      conv => whnf
      refine ⟨fun _ => ?_, fun z => absurd rfl z⟩
      conv => whnf
      exact ⟨trivial, nxt x m I.mono⟩
    | 11, hj =>
      cases hj
      conv => whnf
      refine ⟨v1, ?_⟩
      conv => whnf
      refine ⟨trivial, d_agreed (x := x) (m := hM m) (fun A' => ?_)⟩
      conv => whnf
      refine ⟨v1, ?_⟩
      conv => whnf
      refine ⟨trivial, m_agreed I (by omega) (fun m' J => ?_)⟩
      conv => whnf
      refine ⟨fun _ => ?_, fun z => absurd rfl z⟩
      conv => whnf
      exact ⟨trivial, nxt (sA x A') m' J.mono⟩
    | 12, hj =>
      cases hj
      conv => whnf
      refine ⟨trivial, d_good (x := x) (m := hM m) (fun A' => ?_)⟩
      conv => whnf
      refine ⟨trivial, m_goodI I (by omega) (fun m' J => ?_)⟩
      conv => whnf
      refine ⟨fun _ => ?_, fun z => absurd rfl z⟩
      conv => whnf
      exact ⟨trivial, nxt (sA x A') m' J.mono⟩
    | 13, hj =>
      cases hj
      conv => whnf
      refine ⟨v1, ?_⟩
      conv => whnf
      refine ⟨v2, ?_⟩
      conv => whnf
      refine ⟨trivial, d_in (x := x) (m := hM m) (fun A' => ?_)⟩
      conv => whnf
      refine ⟨v1, ?_⟩
      conv => whnf
      refine ⟨v2, ?_⟩
      conv => whnf
      refine ⟨trivial, m_in I (by omega) (fun m' J => ?_)⟩
      conv => whnf
      refine ⟨fun _ => ?_, fun z => absurd rfl z⟩
      conv => whnf
      exact ⟨trivial, nxt (sA x A') m' J.mono⟩
    | 14, hj =>
      cases hj
      conv => whnf
      refine ⟨trivial, d_liars (x := x) (m := hM m) (fun A' => ?_)⟩
      conv => whnf
      refine ⟨trivial, m_liars I (by omega) (fun m' J => ?_)⟩
      conv => whnf
      refine ⟨fun _ => ?_, fun z => absurd rfl z⟩
      conv => whnf
      exact ⟨trivial, nxt (sA x A') m' J.mono⟩
    | 15, hj =>
      cases hj
      conv => whnf
      refine ⟨v1, ?_⟩
      conv => whnf
      refine ⟨v2, ?_⟩
      conv => whnf
      refine ⟨trivial, d_commit I.2.2.2.2.ok I.2.2.2.1.1.ok (x := x) (m := hM m) (fun A' => ?_)⟩
      conv => whnf
      refine ⟨v1, ?_⟩
      conv => whnf
      refine ⟨v2, ?_⟩
      conv => whnf
      refine ⟨trivial, m_commit I (by omega) (fun m' J => ?_)⟩
      conv => whnf
      refine ⟨fun _ => ?_, fun z => absurd rfl z⟩
      conv => whnf
      exact ⟨trivial, nxt (sA (dCommit x _ _).2 A') m' J⟩
    | 16, hj =>
      cases hj
      conv => whnf
      refine ⟨v1, ?_⟩
      conv => whnf
      refine ⟨v2, ?_⟩
      conv => whnf
      refine ⟨trivial, d_commitOf I.2.2.2.1.1.ok (x := x) (m := hM m) ?_⟩
      conv => whnf
      refine ⟨v1, ?_⟩
      conv => whnf
      refine ⟨v2, ?_⟩
      conv => whnf
      refine ⟨trivial, m_commitOf I ?_⟩
      conv => whnf
      refine ⟨fun _ => ?_, fun z => absurd rfl z⟩
      conv => whnf
      exact ⟨trivial, nxt x m I.mono⟩
    | 17, hj =>
      cases hj
      conv => whnf
      refine ⟨v1, ?_⟩
      conv => whnf
      refine ⟨trivial, d_waiting I.2.2.2.1.1.ok (x := x) (m := hM m) (fun A' => ?_)⟩
      conv => whnf
      refine ⟨v1, ?_⟩
      conv => whnf
      refine ⟨trivial, m_waiting I (by omega) (fun m' J => ?_)⟩
      conv => whnf
      refine ⟨fun _ => ?_, fun z => absurd rfl z⟩
      conv => whnf
      exact ⟨trivial, nxt (sA x A') m' J.mono⟩
    | 18, hj =>
      cases hj
      conv => whnf
      refine ⟨trivial, d_safe I.2.2.2.1.1.ok (x := x) (m := hM m) (fun A' => ?_)⟩
      conv => whnf
      refine ⟨trivial, m_safe I (by omega) (fun m' J => ?_)⟩
      conv => whnf
      refine ⟨fun _ => ?_, fun z => absurd rfl z⟩
      conv => whnf
      exact ⟨trivial, nxt (sA x A') m' J.mono⟩
    | 19, hj =>
      cases hj
      conv => whnf
      refine ⟨v1, ?_⟩
      conv => whnf
      refine ⟨v2, ?_⟩
      conv => whnf
      refine ⟨v3, ?_⟩
      conv => whnf
      refine ⟨trivial, d_read I.2.2.2.1.1.ok (x := x) (m := hM m) (fun A' => ?_)⟩
      conv => whnf
      refine ⟨v1, ?_⟩
      conv => whnf
      refine ⟨v2, ?_⟩
      conv => whnf
      refine ⟨v3, ?_⟩
      conv => whnf
      refine ⟨trivial, m_read I (by omega) (fun m' J => ?_)⟩
      conv => whnf
      refine ⟨fun _ => ?_, fun z => absurd rfl z⟩
      conv => whnf
      exact ⟨trivial, nxt (sA x A') m' J.mono⟩
    | 20, hj =>
      cases hj
      conv => whnf
      refine ⟨v1, ?_⟩
      conv => whnf
      refine ⟨v2, ?_⟩
      conv => whnf
      refine ⟨v3, ?_⟩
      conv => whnf
      refine ⟨v4, ?_⟩
      conv => whnf
      refine ⟨v5, ?_⟩
      conv => whnf
      refine ⟨trivial, d_between I.2.2.2.1.1.ok (x := x) (m := hM m) ?_⟩
      conv => whnf
      refine ⟨v1, ?_⟩
      conv => whnf
      refine ⟨v2, ?_⟩
      conv => whnf
      refine ⟨v3, ?_⟩
      conv => whnf
      refine ⟨v4, ?_⟩
      conv => whnf
      refine ⟨v5, ?_⟩
      conv => whnf
      refine ⟨trivial, m_between I ?_⟩
      conv => whnf
      refine ⟨fun _ => ?_, fun z => absurd rfl z⟩
      conv => whnf
      exact ⟨trivial, nxt x m I.mono⟩
    | 21, hj =>
      cases hj
      conv => whnf
      refine ⟨v1, ?_⟩
      conv => whnf
      refine ⟨trivial, d_leap (x := x) (m := hM m) ?_⟩
      conv => whnf
      refine ⟨v1, ?_⟩
      conv => whnf
      refine ⟨trivial, m_leap I ?_⟩
      conv => whnf
      refine ⟨fun _ => ?_, fun z => absurd rfl z⟩
      conv => whnf
      exact ⟨trivial, nxt x m I.mono⟩
    | 22, hj =>
      cases hj
      conv => whnf
      refine ⟨v1, ?_⟩
      conv => whnf
      refine ⟨v2, ?_⟩
      conv => whnf
      refine ⟨trivial, d_smeared (x := x) (m := hM m) ?_⟩
      conv => whnf
      refine ⟨v1, ?_⟩
      conv => whnf
      refine ⟨v2, ?_⟩
      conv => whnf
      refine ⟨trivial, m_smeared I ?_⟩
      conv => whnf
      refine ⟨fun _ => ?_, fun z => absurd rfl z⟩
      conv => whnf
      exact ⟨trivial, nxt x m I.mono⟩
    | 23, hj =>
      cases hj
      conv => whnf
      refine ⟨v1, ?_⟩
      conv => whnf
      refine ⟨v2, ?_⟩
      conv => whnf
      refine ⟨trivial, d_back (x := x) (m := hM m) ?_⟩
      conv => whnf
      refine ⟨v1, ?_⟩
      conv => whnf
      refine ⟨v2, ?_⟩
      conv => whnf
      refine ⟨trivial, m_back I ?_⟩
      conv => whnf
      refine ⟨fun _ => ?_, fun z => absurd rfl z⟩
      conv => whnf
      exact ⟨trivial, nxt x m I.mono⟩
    | 24, hj =>
      cases hj
      conv => whnf
      refine ⟨v1, ?_⟩
      conv => whnf
      refine ⟨trivial, d_count (x := x) (m := hM m) ?_⟩
      conv => whnf
      refine ⟨v1, ?_⟩
      conv => whnf
      refine ⟨trivial, m_count I ?_⟩
      conv => whnf
      refine ⟨fun _ => ?_, fun z => absurd rfl z⟩
      conv => whnf
      exact ⟨trivial, nxt x m I.mono⟩
    | j + 25, hj => cases hj
  · conv => whnf
    exact ⟨trivial, nxt x m I.mono⟩
