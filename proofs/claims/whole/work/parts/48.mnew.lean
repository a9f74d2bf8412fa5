/-! ===== the reference's constructor; both alike at first ===== -/
def cB (p : Nat) : Int32 := if p < 70 then bI p else 0
theorem cB_eq {f : Nat → Int32} (hf : ∀ j, j < 70 → f j = bI j) : ch (f, nI 70) = cB := by
  funext p
  unfold ch cB
  rw [show (nI 70).toNatClampNeg = 70 by decide]
  by_cases q : p < 70
  · rw [if_pos q, if_pos q]; exact hf p q
  · rw [if_neg q, if_neg q]
theorem pi0 : pItem cB 0 = some (6, 100, 1000, 0, 0, 0) := by decide +kernel
theorem pi1 : pItem cB 6 = some (18, 109, 0, 990, 1010, 0) := by decide +kernel
theorem pi2 : pItem cB 18 = some (31, 109, 1, 1000, 1030, 0) := by decide +kernel
theorem pi3 : pItem cB 31 = some (43, 109, 2, 995, 1005, 0) := by decide +kernel
theorem pi4 : pItem cB 43 = some (56, 109, 3, 2000, 2010, 0) := by decide +kernel
theorem pi5 : pItem cB 56 = some (70, 115, 1500, 1, 100, 0) := by decide +kernel
theorem dItems_step {c : Nat → Int32} {n k p q : Nat} {t : zX} {s : zS × zL} (hp : p < n) (e : pItem c p = some (q, t)) : dItems c n (k + 1) p s = dItems c n k q (dItem s t) := by
  rw [dItems, if_neg (by omega), e]
theorem MR0 {S : zS} {g r : Nat → Int64} (hg : ∀ t, t < 108 → g t = if t = 1 then 1000 else 0) : MR (dItems cB 70 200 0 (dClear S, 1000, 1, 100, 0)) (pM3 (pM3 (pM3 (pM3 g 0 990 1010) 1 1000 1030) 2 995 1005) 3 2000 2010) (pL4 (pL4 r 1000 1 100 0) 1500 1 100 0) := by
  have e : dItems cB 70 200 0 (dClear S, 1000, 1, 100, 0) = dItem (dItem (dItem (dItem (dItem (dItem (dClear S, 1000, 1, 100, 0) (100, 1000, 0, 0, 0)) (109, 0, 990, 1010, 0)) (109, 1, 1000, 1030, 0)) (109, 2, 995, 1005, 0)) (109, 3, 2000, 2010, 0)) (115, 1500, 1, 100, 0) := by
    rw [dItems_step (k := 199) (by omega) pi0, dItems_step (k := 198) (by omega) pi1, dItems_step (k := 197) (by omega) pi2, dItems_step (k := 196) (by omega) pi3, dItems_step (k := 195) (by omega) pi4, dItems_step (k := 194) (by omega) pi5, dItems, if_pos (Nat.le_refl _)]
  have g1 : vp_updL g 1 1000 = g := by
    funext t
    by_cases q : t = 1
    · rw [q, upL_eq, hg 1 (by omega), if_pos rfl]
    · rw [upL_ne q]
  rw [e]
  refine MR.item (MR.item (MR.item (MR.item (MR.item (MR.item (MR.begin hg) (pItem_ok pi0) (g' := g) (r' := pL4 r 1000 1 100 0) (Or.inl ⟨rfl, g1.symm, rfl⟩)) (pItem_ok pi1) (Or.inr (Or.inl ⟨rfl, ⟨0, rfl, by omega, rfl⟩, rfl⟩))) (pItem_ok pi2) (Or.inr (Or.inl ⟨rfl, ⟨1, by decide, by omega, rfl⟩, rfl⟩))) (pItem_ok pi3) (Or.inr (Or.inl ⟨rfl, ⟨2, by decide, by omega, rfl⟩, rfl⟩))) (pItem_ok pi4) (Or.inr (Or.inl ⟨rfl, ⟨3, by decide, by omega, rfl⟩, rfl⟩))) (pItem_ok pi5) (Or.inr (Or.inr ⟨rfl, rfl, rfl⟩))
abbrev m0 : zN := (fun _ => 0, fun _ => 0, 0, fun _ => 0, 0, 0, fun _ => 0, fun _ => 0, fun _ => 0, fun _ => 0, fun _ => 0, 0, 0, 0, 0)
theorem Inv0 {m : zN} {a : Int32} {g r f l : Nat → Int64} (hg : ∀ t, t < 108 → g t = if t = 1 then 1000 else 0) (hf : ∀ t, t < 108 → f t = pM3 (pM3 (pM3 (pM3 g 0 990 1010) 1 1000 1030) 2 995 1005) 3 2000 2010 t) (hl : ∀ t, t < 4 → l t = pL4 (pL4 r 1000 1 100 0) 1500 1 100 0 t) (hz : mZ m = 0) (hK : mK m = 0) :
    ∀ f' I', (∀ j, j < 70 → f' j = bI j) → Inv 0 (sT (sI (dLays (sT x0 (f', nI 70))) I') (f', 0)) (tK0 (tQ m a (pM3 (pM3 (pM3 (pM3 g 0 990 1010) 1 1000 1030) 2 995 1005) 3 2000 2010) (pL4 (pL4 r 1000 1 100 0) 1500 1 100 0)) f l) := by
  intro f' I' hf'
  have hM := MR0 (S := s0) (r := r) hg
  have e : dLaid (f', nI 70) s0 = dItems cB 70 200 0 (dClear s0, 1000, 1, 100, 0) := by
    unfold dLaid
    rw [cB_eq hf', show ((f', nI 70) : zT).2.toNatClampNeg = 70 by show (nI 70).toNatClampNeg = 70; decide]
  rw [← e] at hM
  have hR : RS (dLaid (f', nI 70) s0).1 f := hM.1.congr (hM.wf (k := 0)) hf
  obtain ⟨r0, r1, r2, r3⟩ := hM.2.2.2.2.1
  refine ⟨⟨⟨0, rfl, by omega, fun j hj => absurd hj (Nat.not_lt_zero _)⟩, hz, fun j hj => absurd hj (Nat.not_lt_zero _)⟩, ⟨⟨(hl 0 (by omega)).trans r0, (hl 1 (by omega)).trans r1, (hl 2 (by omega)).trans r2, (hl 3 (by omega)).trans r3⟩, hM.2.2.2.2.2⟩, hR, hM.wf, ?_⟩
  exact PR.none (P := (fun _ => s0, 0, 0)) ⟨0, by omega, rfl⟩
theorem nP_s {E : pm_E} {y n : Nat} {t c : pm_Cd} {S S' : pm_St} {Q : pm_Q} (e : S = S') (k : nP E y t n c S' Q) : nP E y t n c S Q := by subst e; exact k
theorem m_new {E : pm_E} {Q : pm_Q} {y : zD} (h : ∀ m', (∀ f I', (∀ j, j < 70 → f j = bI j) → Inv 0 (sT (sI (dLays (sT x0 (f, nI 70))) I') (f, 0)) m') → Q none (mkH y m')) : Sm E n_X9_init 0 (pl_entry 1 [.ref 92], [], mkG y [.inr (9, [.null, .null, .int 0, .null, .int 0, .int 0, .null, .null, .null, .null, .null, .int 0, .int 0, .long 0, .long 0])], 0, 0) Q := by
  refine pm_go (aX9_init E) 100 rfl ?_
  conv => whnf
  refine ⟨rfl, ?_⟩
  conv => whnf
  refine ⟨rfl, ?_⟩
  conv => whnf
  refine ⟨rfl, ?_⟩
  refine nP_s (S' := ([some (.ref 92)], [.ref 95, .ref 92], mkG y [.inr (9, [.ref 93, .ref 94, .int 0, .null, .int 0, .int 0, .null, .null, .null, .null, .null, .int 0, .int 0, .long 0, .long 0]), eL 108 (fun _ => 0), eL 648 (fun _ => 0), eI 200 (fun _ => 0)], 3, 956)) rfl ?_
  conv => whnf
  refine ⟨rfl, ?_⟩
  conv => whnf
  refine ⟨rfl, ?_⟩
  refine nP_s (S' := ([some (.ref 92)], [.ref 97, .ref 92], mkG y [.inr (9, [.ref 93, .ref 94, .int 0, .ref 95, .int 0, .int 0, .ref 96, .null, .null, .null, .null, .int 0, .int 0, .long 0, .long 0]), eL 108 (fun _ => 0), eL 648 (fun _ => 0), eI 200 (fun _ => 0), eL 108 (fun _ => 0), eL 4 (fun _ => 0)], 5, 1068)) rfl ?_
  conv => whnf
  refine ⟨rfl, ?_⟩
  conv => whnf
  refine ⟨rfl, ?_⟩
  refine nP_s (S' := ([some (.ref 92)], [.ref 99, .ref 92], mkG y [.inr (9, [.ref 93, .ref 94, .int 0, .ref 95, .int 0, .int 0, .ref 96, .ref 97, .ref 98, .null, .null, .int 0, .int 0, .long 0, .long 0]), eL 108 (fun _ => 0), eL 648 (fun _ => 0), eI 200 (fun _ => 0), eL 108 (fun _ => 0), eL 4 (fun _ => 0), eL 4 (fun _ => 0), eL 6 (fun _ => 0)], 7, 1078)) rfl ?_
  conv => whnf
  refine ⟨rfl, ?_⟩
  conv => whnf
  refine ⟨trivial, m_begin (m := m0) (fun g hg => ?_)⟩
  conv => whnf
  refine ⟨trivial, m_putM (m := m0) (j := 0) rfl (by omega) ?_⟩
  conv => whnf
  refine ⟨trivial, m_putM (m := m0) (j := 1) rfl (by omega) ?_⟩
  conv => whnf
  refine ⟨trivial, m_putM (m := m0) (j := 2) rfl (by omega) ?_⟩
  conv => whnf
  refine ⟨trivial, m_putM (m := m0) (j := 3) rfl (by omega) ?_⟩
  conv => whnf
  refine ⟨trivial, m_putL (m := m0) ?_⟩
  conv => whnf
  refine ⟨trivial, m_take (fun f l hf hl => ?_)⟩
  have hh := h _ (Inv0 (a := mAt m0) (m := m0) (r := mR m0) hg hf hl rfl rfl)
  conv => whnf
  exact ⟨⟨rfl, rfl⟩, hh⟩
