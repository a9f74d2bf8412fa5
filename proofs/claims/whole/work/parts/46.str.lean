/-! ===== the constant's letters, and the class's constructor ===== -/
theorem j_coder {E : pm_E} {Q : pm_Q} {hp : List va_E} (h : Q (some (.int 0)) hp) : Sm E n_J0_coder 0 (pl_entry 1 [.ref 1], [], hp, 0, 0) Q := by
  refine pm_go (aJ0_coder_7d493 E) 100 rfl ?_
  conv => whnf
  refine ⟨fun z => absurd z (by decide), fun _ => ?_⟩
  conv => whnf
  exact ⟨rfl, h⟩
theorem j_isL {E : pm_E} {Q : pm_Q} {hp : List va_E} (h : Q (some (.int 1)) hp) : Sm E n_J0_isLatin1 0 (pl_entry 1 [.ref 1], [], hp, 0, 0) Q := by
  refine pm_go (aJ0_isLatin1_aae02 E) 100 rfl ?_
  conv => whnf
  refine ⟨fun z => absurd z (by decide), fun _ => ?_⟩
  conv => whnf
  refine ⟨fun z => absurd rfl z, fun _ => ?_⟩
  conv => whnf
  exact ⟨rfl, h⟩
theorem j_len {E : pm_E} {Q : pm_Q} {hp : List va_E} (h : Q (some (.int 70)) hp) : Sm E n_J0_length 0 (pl_entry 1 [.ref 1], [], hp, 0, 0) Q := by
  rw [show (70 : Int32) = (70 : Int32) >>> ((0 : Int32) &&& 31) by decide] at h
  refine pm_go (aJ0_length_8abf5 E) 100 rfl ?_
  conv => whnf
  refine ⟨trivial, j_coder ?_⟩
  conv => whnf
  exact ⟨trivial, h⟩
theorem j_chk3 {E : pm_E} {Q : pm_Q} {hp : List va_E} {i : Nat} {v : Value} (hi : i < 70) (h : Q (some (.int (nI i))) hp) : Sm E n_J3_checkIndex 0 (pl_entry 3 [.int (nI i), .int 70, v], [], hp, 0, 0) Q := by
  refine pm_go (aJ3_checkIndex_8e157 E) 100 rfl ?_
  conv => whnf
  refine ⟨fun q => absurd q (nI_pos (by omega)), fun _ => ?_⟩
  conv => whnf
  refine ⟨fun _ => ?_, fun q => absurd (Int32.not_le.mp (show ¬ nI 70 ≤ nI i from nI_ge hi (by decide))) q⟩
  conv => whnf
  exact ⟨trivial, h⟩
theorem j_chk {E : pm_E} {Q : pm_Q} {hp : List va_E} {i : Nat} (hi : i < 70) (h : Q none hp) : Sm E n_J0_checkIndex 0 (pl_entry 2 [.int (nI i), .int 70], [], hp, 0, 0) Q := by
  refine pm_go (aJ0_checkIndex_df160 E) 100 rfl ?_
  conv => whnf
  refine ⟨trivial, j_chk3 hi ?_⟩
  conv => whnf
  exact ⟨trivial, h⟩
def bI (i : Nat) : Int32 := pm_bytes.getD i 0
theorem bI_nar : ∀ i, i < 70 → vp_nar .char (bI i &&& 255) = bI i ∧ vp_nar .char (bI i) = bI i ∧ bI i = nI (bI i).toNatClampNeg ∧ (bI i).toNatClampNeg < 128 := by decide
theorem j_at1 {E : pm_E} {Q : pm_Q} {hp : List va_E} {i : Nat} (hi : i < 70) (h : Q (some (.int (bI i))) hp) : Sm E n_J1_charAt 0 (pl_entry 2 [.ref 2, .int (nI i)], [], hp, 0, 0) Q := by
  refine pm_go (aJ1_charAt_3b067 E) 100 rfl ?_
  conv => whnf
  refine ⟨trivial, j_chk hi ?_⟩
  conv => whnf
  refine ⟨vp_in_nI (by omega) (by decide), ?_⟩
  have e : ((pm_bytes.getD (nI i).toNatClampNeg 0 &&& 255).toUInt32 % 65536).toInt32 = bI i := by rw [cl (by omega)]; exact (bI_nar i hi).1
  have hn : narrow .char (.int (bI i)) = .int (bI i) := by
    rw [(bI_nar i hi).2.2.1]
    exact (pk_charN (q := (bI i).toNatClampNeg) (by have := (bI_nar i hi).2.2.2; omega)).1
  rw [← e] at h hn
  conv => whnf
  exact ⟨hn, h⟩
theorem j_at {E : pm_E} {Q : pm_Q} {hp : List va_E} {i : Nat} (hi : i < 70) (h : Q (some (.int (bI i))) hp) : Sm E n_J0_charAt 0 (pl_entry 2 [.ref 1, .int (nI i)], [], hp, 0, 0) Q := by
  refine pm_go (aJ0_charAt_5068e E) 100 rfl ?_
  conv => whnf
  refine ⟨trivial, j_isL ?_⟩
  conv => whnf
  refine ⟨fun z => absurd z (by decide), fun _ => ?_⟩
  conv => whnf
  refine ⟨trivial, j_at1 hi ?_⟩
  have hn : narrow .char (.int (bI i)) = .int (bI i) := by
    rw [(bI_nar i hi).2.2.1]
    exact (pk_charN (q := (bI i).toNatClampNeg) (by have := (bI_nar i hi).2.2.2; omega)).1
  conv => whnf
  exact ⟨hn, h⟩
theorem l_pall {E : pm_E} {Q : pm_Q} {x : zD} {m : List va_E} (h : ∀ f, (∀ j, j < 70 → f j = bI j) → Q none (mkG (sT x (f, nI 70)) m)) : ∀ (n i : Nat) (f : Nat → Int32), i + n = 70 → (∀ j, j < i → f j = bI j) → Sm E n_X7_putAll 2 ([some (.ref 5), some (.ref 1), some (.int (nI i))], [], mkG (sT x (f, nI i)) m, 0, 0) Q := by
  intro n
  induction n with
  | zero =>
    intro i f hi hf
    obtain rfl : i = 70 := by omega
    refine pm_lp (aX7_putAll E) 100 2 rfl ?_
    conv => whnf
    refine ⟨trivial, j_len ?_⟩
    conv => whnf
    refine ⟨fun _ => ?_, fun q => absurd (show (70 : Int32) ≤ nI 70 by decide) q⟩
    conv => whnf
    exact ⟨trivial, h f hf⟩
  | succ n ih =>
    intro i f hi hf
    have hi7 : i < 70 := by omega
    have c1 : (nI i).toNatClampNeg = i := cl (by omega)
    have nx := ih (i + 1) (upd f (nI i).toNatClampNeg (vp_nar .char (bI i))) (by omega) (fun j hj => by
      rw [c1, (bI_nar i hi7).2.1]
      by_cases q : j = i
      · rw [q]; exact if_pos rfl
      · exact (if_neg q).trans (hf j (by omega)))
    rw [nI_succ] at nx
    refine pm_lp (aX7_putAll E) 100 2 rfl ?_
    conv => whnf
    refine ⟨trivial, j_len ?_⟩
    conv => whnf
    refine ⟨fun q => absurd (show nI 70 ≤ nI i from q) (nI_ge hi7 (by decide)), fun _ => ?_⟩
    conv => whnf
    refine ⟨fun q => absurd (show nI 200 ≤ nI i from q) (nI_ge (by omega) (by decide)), fun _ => ?_⟩
    conv => whnf
    refine ⟨trivial, j_at hi7 ?_⟩
    conv => whnf
    refine ⟨trivial, c_put (x := sT x (f, nI i)) (show vp_in (nI i) 200 from vp_in_nI (by omega) (by decide)) ?_⟩
    conv => whnf
    refine ⟨trivial, ?_⟩
    exact nx
theorem c_putAll {E : pm_E} {Q : pm_Q} {x : zD} {m : List va_E} (hx : (xT x).2 = 0) (h : ∀ f, (∀ j, j < 70 → f j = bI j) → Q none (mkG (sT x (f, nI 70)) m)) : Sm E n_X7_putAll 0 (pl_entry 3 [.ref 5, .ref 1], [], mkG x m, 0, 0) Q := by
  have nx := l_pall (E := E) h 70 0 (xT x).1 (by omega) (fun j hj => absurd hj (Nat.not_lt_zero _))
  obtain ⟨⟨f, t⟩, xr⟩ := x
  have hx : t = 0 := hx
  subst hx
  refine pm_go (aX7_putAll E) 100 rfl ?_
  conv => whnf
  refine ⟨trivial, ?_⟩
  exact nx
