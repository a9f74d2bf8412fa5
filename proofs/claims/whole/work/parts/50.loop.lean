/-! ===== the law ===== -/
theorem w_exit {k L : Nat} (h1 : 6 * k ≤ L) (h2 : L < 6 * k + 6) (h3 : L ≤ 3072) : nI L - 6 < nI (6 * k) := by
  rcases Nat.eq_zero_or_pos k with rfl | hk
  · have : L < 6 := by omega
    revert this
    clear h1 h2 h3
    revert L
    decide
  · rw [show (6 : Int32) = nI 6 from rfl, nI_sub (by omega)]
    exact nI_lt (by omega) (by omega)
set_option maxRecDepth 100000 in
theorem w_out {E : pm_E} {Q : pm_Q} {x : zD} {m : zN} {k : Nat} (h1 : 6 * k ≤ pm_L E) (h2 : pm_L E < 6 * k + 6) (hL2 : pm_L E ≤ 3072) (h : ∀ hp, Q (some (.int 1)) hp) : Sm E 0 18 ([some (.ref 0), some (.ref 4), some (.ref 92), some (.int (nI (6 * k)))], [], mkH x m, 97, 2142) Q := by
  refine pm_lp (aL_law E) 100 18 rfl ?_
  conv => whnf
  refine ⟨fun _ => ?_, fun q => absurd (w_exit h1 h2 hL2) q⟩
  conv => whnf
  exact ⟨rfl, h _⟩
set_option maxRecDepth 100000 in
theorem w_next {E : pm_E} {Q : pm_Q} {H : List va_E} {k : Nat} (h : Sm E 0 18 ([some (.ref 0), some (.ref 4), some (.ref 92), some (.int (nI (6 * (k + 1))))], [], H, 97, 2142) Q) : Sm E 0 980 ([some (.ref 0), some (.ref 4), some (.ref 92), some (.int (nI (6 * k)))], [], H, 97, 2142) Q := by
  rw [show nI (6 * (k + 1)) = nI (6 * k) + 6 by rw [show (6 : Int32) = nI 6 from rfl, nI_add]; congr 1] at h
  refine pm_lp (aL_law E) 100 980 rfl ?_
  conv => whnf
  exact ⟨trivial, h⟩
theorem w_loop {E : pm_E} {Q : pm_Q} (hL2 : pm_L E ≤ 3072) (h : ∀ hp, Q (some (.int 1)) hp) : ∀ (n k : Nat) (x : zD) (m : zN), 6 * k ≤ pm_L E → pm_L E < 6 * (k + n) + 6 → Inv k x m → Sm E 0 18 ([some (.ref 0), some (.ref 4), some (.ref 92), some (.int (nI (6 * k)))], [], mkH x m, 97, 2142) Q := by
  intro n
  induction n with
  | zero => intro k x m h1 h2 _; exact w_out h1 (by omega) hL2 h
  | succ n ih =>
    intro k x m h1 h2 I
    rcases Nat.lt_or_ge (pm_L E) (6 * k + 6) with q | q
    · exact w_out h1 q hL2 h
    · exact w_step q hL2 I (fun x' m' J => w_next (ih (k + 1) x' m' (by omega) (by omega) J))
set_option maxRecDepth 100000 in
theorem w_law {E : pm_E} {Q : pm_Q} (hL2 : pm_L E ≤ 3072) (h : ∀ hp, Q (some (.int 1)) hp) : Sm E 0 0 (pl_entry 4 [.ref 0], [], [], 0, 0) Q := by
  refine pm_go (aL_law E) 100 rfl ?_
  conv => whnf
  refine ⟨trivial, d_new (fun I' f hf => ?_)⟩
  conv => whnf
  refine ⟨trivial, m_new (fun m' hI => ?_)⟩
  have nx := w_loop hL2 h 512 0 _ m' (by omega) (by omega) (hI f I' hf)
  conv => whnf
  refine ⟨trivial, ?_⟩
  exact nx
