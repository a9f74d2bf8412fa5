/-! Math.max, Math.min -/
def po_maxl : pm_Op := fun N _ _ _ _ s => match s with
  | (ls, st, x) => pk_ll st fun a b r => pk_is (Nat.ble (pk_cat r) 8) (N (ls, .long (if b < a then a else b) :: r, x))
theorem ps_maxl {E : pm_E} {y pc idx : Nat} (hw : Cond.methodLink (pm_nm y).cls idx Lib.MathLoose.max_long.x ∈ pm_ws) (hw2 : Cond.static Lib.MathLoose.max_long.x ∈ pm_ws) (hw3 : Cond.initialized "java/lang/Math" ∈ pm_ws) (hw4 : Cond.code Lib.MathLoose.max_long.x Lib.MathLoose.max_long.code 4 (some .long) ∈ pm_ws) (hfr : 1 ≤ (pm_rm y).frames) (hlo : 23 ≤ (pm_rm y).locals) (hd : decode (pm_cd y) pc = .ok (.invokestatic idx, 3)) : pm_Snd E y pc (pc + 3) po_maxl := by
  intro N J C M Q S hN hJ hC hM h
  obtain ⟨ls, st, x⟩ := S
  obtain ⟨a, b, r, rfl, h0⟩ := pk_ll_of h
  obtain ⟨h2, h4⟩ := pk_is_of h0
  intro n0 p e s m args below meth c H locs la QQ F hP hS hl hk1 hk2 hn hend
  have hts := F.2.2.2.2.1
  have hcat := Nat.le_of_ble_eq_true h2
  exact va_mmax_long F.1 F.2.1 (F.2.2.1.trans hl.1.symm) F.2.2.2.1 (hts _ hw) (hts _ hw2) (hts _ hw3) (hts _ hw4) hfr (by rw [pk_cat_eq (pm_fm_cat F.2.2.2.2.2.2.2.2.2.2.1)]; omega) hk1 hk2 hd (hN _ h4 n0 p e s m args below meth c H locs la QQ F hP hS hl hk1 hk2 hn hend)
def po_minl : pm_Op := fun N _ _ _ _ s => match s with
  | (ls, st, x) => pk_ll st fun a b r => pk_is (Nat.ble (pk_cat r) 8) (N (ls, .long (if b < a then b else a) :: r, x))
theorem ps_minl {E : pm_E} {y pc idx : Nat} (hw : Cond.methodLink (pm_nm y).cls idx Lib.MathLoose.min_long.x ∈ pm_ws) (hw2 : Cond.static Lib.MathLoose.min_long.x ∈ pm_ws) (hw3 : Cond.initialized "java/lang/Math" ∈ pm_ws) (hw4 : Cond.code Lib.MathLoose.min_long.x Lib.MathLoose.min_long.code 4 (some .long) ∈ pm_ws) (hfr : 1 ≤ (pm_rm y).frames) (hlo : 23 ≤ (pm_rm y).locals) (hd : decode (pm_cd y) pc = .ok (.invokestatic idx, 3)) : pm_Snd E y pc (pc + 3) po_minl := by
  intro N J C M Q S hN hJ hC hM h
  obtain ⟨ls, st, x⟩ := S
  obtain ⟨a, b, r, rfl, h0⟩ := pk_ll_of h
  obtain ⟨h2, h4⟩ := pk_is_of h0
  intro n0 p e s m args below meth c H locs la QQ F hP hS hl hk1 hk2 hn hend
  have hts := F.2.2.2.2.1
  have hcat := Nat.le_of_ble_eq_true h2
  exact va_mmin_long F.1 F.2.1 (F.2.2.1.trans hl.1.symm) F.2.2.2.1 (hts _ hw) (hts _ hw2) (hts _ hw3) (hts _ hw4) hfr (by rw [pk_cat_eq (pm_fm_cat F.2.2.2.2.2.2.2.2.2.2.1)]; omega) hk1 hk2 hd (hN _ h4 n0 p e s m args below meth c H locs la QQ F hP hS hl hk1 hk2 hn hend)
def po_mini : pm_Op := fun N _ _ _ _ s => match s with
  | (ls, st, x) => pk_ii st fun a b r => pk_is (Nat.ble (pk_cat r) 8) (N (ls, .int (if b < a then b else a) :: r, x))
theorem ps_mini {E : pm_E} {y pc idx : Nat} (hw : Cond.methodLink (pm_nm y).cls idx Lib.Math.min.name ∈ pm_ws) (hw2 : Cond.static Lib.Math.min.name ∈ pm_ws) (hw3 : Cond.initialized "java/lang/Math" ∈ pm_ws) (hw4 : Cond.code Lib.Math.min.name Lib.Math.min.code 2 (some .int) ∈ pm_ws) (hfr : 1 ≤ (pm_rm y).frames) (hlo : 23 ≤ (pm_rm y).locals) (hd : decode (pm_cd y) pc = .ok (.invokestatic idx, 3)) : pm_Snd E y pc (pc + 3) po_mini := by
  intro N J C M Q S hN hJ hC hM h
  obtain ⟨ls, st, x⟩ := S
  obtain ⟨a, b, r, rfl, h0⟩ := pk_ii_of h
  obtain ⟨h2, h4⟩ := pk_is_of h0
  intro n0 p e s m args below meth c H locs la QQ F hP hS hl hk1 hk2 hn hend
  have hts := F.2.2.2.2.1
  have hcat := Nat.le_of_ble_eq_true h2
  exact va_mmin F.1 F.2.1 (F.2.2.1.trans hl.1.symm) F.2.2.2.1 (hts _ hw) (hts _ hw2) (hts _ hw3) (hts _ hw4) hfr (by rw [pk_cat_eq (pm_fm_cat F.2.2.2.2.2.2.2.2.2.2.1)]; omega) hk1 hk2 hd (hN _ h4 n0 p e s m args below meth c H locs la QQ F hP hS hl hk1 hk2 hn hend)
