/-! ===== the class's constructor ===== -/
abbrev x0 : zD := ((fun _ => 0, 0), (fun _ => 0, 0, 0), s0, (fun _ => s0, 0, 0), (fun _ => 0, fun _ => 0, 0, 0, 0), (0, 0, 0, 0))
theorem d_new {E : pm_E} {Q : pm_Q} (h : ∀ I' f, (∀ j, j < 70 → f j = bI j) → Q none (mkG (sT (sI (dLays (sT x0 (f, nI 70))) I') (f, 0)) [])) : Sm E n_X8_init 0 (pl_entry 1 [.ref 4], [], [.inr (8, [.null, .null, .null, .null, .null, .null])], 0, 0) Q := by
  refine pm_go (aX8_init E) 100 rfl ?_
  conv => whnf
  refine ⟨trivial, k_text ?_⟩
  conv => whnf
  refine ⟨trivial, k_item ?_⟩
  conv => whnf
  refine ⟨trivial, k_stat9 ?_⟩
  conv => whnf
  refine ⟨trivial, k_past ?_⟩
  conv => whnf
  refine ⟨trivial, k_agr ?_⟩
  conv => whnf
  refine ⟨trivial, k_leap ?_⟩
  conv => whnf
  refine ⟨trivial, c_putAll (x := x0) (m := []) rfl (fun f hf => ?_)⟩
  conv => whnf
  refine ⟨trivial, d_layItems (x := sT x0 (f, nI 70)) (m := []) ⟨70, rfl, by decide, fun j hj => ⟨(bI j).toNatClampNeg, (bI_nar j hj).2.2.2, by show f j = _; rw [hf j hj]; exact (bI_nar j hj).2.2.1⟩⟩ (fun I' => ?_)⟩
  have hh := h I' f hf
  conv => whnf
  exact ⟨⟨rfl, rfl⟩, hh⟩
