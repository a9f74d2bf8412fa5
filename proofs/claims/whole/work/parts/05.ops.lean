/-! ===== instructions: transformers po_, their soundness rows ps_ (printed by gen05.py) ===== -/
def pm_Snd (E : pm_E) (y pc nx : Nat) (op : pm_Op) : Prop :=
  ∀ (N : pm_St → Prop) (J : Nat → pm_St → Prop) (C : Nat → List Value → List va_E → pm_Q → Prop) (M : pm_St → Prop) (Q : pm_Q) (S : pm_St), (∀ S', N S' → Sm E y nx S' Q) → (∀ t S', J t S' → Sm E y t S' Q) → (∀ y' as h K, C y' as h K → Sm E y' 0 (pl_entry (pm_mL y') as, [], h, 0, 0) K) → (∀ S', M S' → Sm E y pc S' Q) → op N J C M Q S → Sm E y pc S Q
theorem pm_Snd.at {E : pm_E} {y pc nx nx' : Nat} {op : pm_Op} (h : pm_Snd E y pc nx op) (hn : nx = nx') : pm_Snd E y pc nx' op := hn ▸ h
def pk_i (st : List Value) (k : Int32 → List Value → Prop) : Prop := match st with
  | .int a :: r => k a r
  | _ => False
theorem pk_i_of {st : List Value} {k : Int32 → List Value → Prop} (h : pk_i st k) : ∃ (a : Int32) (r : List Value), st = .int a :: r ∧ k a r := by
  unfold pk_i at h
  split at h
  · exact ⟨_, _, rfl, h⟩
  · exact h.elim
def pk_l (st : List Value) (k : Int64 → List Value → Prop) : Prop := match st with
  | .long a :: r => k a r
  | _ => False
theorem pk_l_of {st : List Value} {k : Int64 → List Value → Prop} (h : pk_l st k) : ∃ (a : Int64) (r : List Value), st = .long a :: r ∧ k a r := by
  unfold pk_l at h
  split at h
  · exact ⟨_, _, rfl, h⟩
  · exact h.elim
def pk_ii (st : List Value) (k : Int32 → Int32 → List Value → Prop) : Prop := match st with
  | .int b :: .int a :: r => k a b r
  | _ => False
theorem pk_ii_of {st : List Value} {k : Int32 → Int32 → List Value → Prop} (h : pk_ii st k) : ∃ (a : Int32) (b : Int32) (r : List Value), st = .int b :: .int a :: r ∧ k a b r := by
  unfold pk_ii at h
  split at h
  · exact ⟨_, _, _, rfl, h⟩
  · exact h.elim
def pk_ll (st : List Value) (k : Int64 → Int64 → List Value → Prop) : Prop := match st with
  | .long b :: .long a :: r => k a b r
  | _ => False
theorem pk_ll_of {st : List Value} {k : Int64 → Int64 → List Value → Prop} (h : pk_ll st k) : ∃ (a : Int64) (b : Int64) (r : List Value), st = .long b :: .long a :: r ∧ k a b r := by
  unfold pk_ll at h
  split at h
  · exact ⟨_, _, _, rfl, h⟩
  · exact h.elim
def pk_li (st : List Value) (k : Int64 → Int32 → List Value → Prop) : Prop := match st with
  | .int b :: .long a :: r => k a b r
  | _ => False
theorem pk_li_of {st : List Value} {k : Int64 → Int32 → List Value → Prop} (h : pk_li st k) : ∃ (a : Int64) (b : Int32) (r : List Value), st = .int b :: .long a :: r ∧ k a b r := by
  unfold pk_li at h
  split at h
  · exact ⟨_, _, _, rfl, h⟩
  · exact h.elim
def pk_r (st : List Value) (k : Nat → List Value → Prop) : Prop := match st with
  | .ref a :: r => k a r
  | _ => False
theorem pk_r_of {st : List Value} {k : Nat → List Value → Prop} (h : pk_r st k) : ∃ (a : Nat) (r : List Value), st = .ref a :: r ∧ k a r := by
  unfold pk_r at h
  split at h
  · exact ⟨_, _, rfl, h⟩
  · exact h.elim
def pk_ri (st : List Value) (k : Nat → Int32 → List Value → Prop) : Prop := match st with
  | .int i :: .ref a :: r => k a i r
  | _ => False
theorem pk_ri_of {st : List Value} {k : Nat → Int32 → List Value → Prop} (h : pk_ri st k) : ∃ (a : Nat) (i : Int32) (r : List Value), st = .int i :: .ref a :: r ∧ k a i r := by
  unfold pk_ri at h
  split at h
  · exact ⟨_, _, _, rfl, h⟩
  · exact h.elim
def pk_rii (st : List Value) (k : Nat → Int32 → Int32 → List Value → Prop) : Prop := match st with
  | .int x :: .int i :: .ref a :: r => k a i x r
  | _ => False
theorem pk_rii_of {st : List Value} {k : Nat → Int32 → Int32 → List Value → Prop} (h : pk_rii st k) : ∃ (a : Nat) (i : Int32) (x : Int32) (r : List Value), st = .int x :: .int i :: .ref a :: r ∧ k a i x r := by
  unfold pk_rii at h
  split at h
  · exact ⟨_, _, _, _, rfl, h⟩
  · exact h.elim
def pk_ril (st : List Value) (k : Nat → Int32 → Int64 → List Value → Prop) : Prop := match st with
  | .long x :: .int i :: .ref a :: r => k a i x r
  | _ => False
theorem pk_ril_of {st : List Value} {k : Nat → Int32 → Int64 → List Value → Prop} (h : pk_ril st k) : ∃ (a : Nat) (i : Int32) (x : Int64) (r : List Value), st = .long x :: .int i :: .ref a :: r ∧ k a i x r := by
  unfold pk_ril at h
  split at h
  · exact ⟨_, _, _, _, rfl, h⟩
  · exact h.elim
def pk_rir (st : List Value) (k : Nat → Int32 → Nat → List Value → Prop) : Prop := match st with
  | .ref x :: .int i :: .ref a :: r => k a i x r
  | _ => False
theorem pk_rir_of {st : List Value} {k : Nat → Int32 → Nat → List Value → Prop} (h : pk_rir st k) : ∃ (a : Nat) (i : Int32) (x : Nat) (r : List Value), st = .ref x :: .int i :: .ref a :: r ∧ k a i x r := by
  unfold pk_rir at h
  split at h
  · exact ⟨_, _, _, _, rfl, h⟩
  · exact h.elim
def pk_vr (st : List Value) (k : Nat → Value → List Value → Prop) : Prop := match st with
  | v :: .ref a :: r => k a v r
  | _ => False
theorem pk_vr_of {st : List Value} {k : Nat → Value → List Value → Prop} (h : pk_vr st k) : ∃ (a : Nat) (v : Value) (r : List Value), st = v :: .ref a :: r ∧ k a v r := by
  unfold pk_vr at h
  split at h
  · exact ⟨_, _, _, rfl, h⟩
  · exact h.elim
def pk_v (st : List Value) (k : Value → List Value → Prop) : Prop := match st with
  | v :: r => k v r
  | _ => False
theorem pk_v_of {st : List Value} {k : Value → List Value → Prop} (h : pk_v st k) : ∃ (v : Value) (r : List Value), st = v :: r ∧ k v r := by
  unfold pk_v at h
  split at h
  · exact ⟨_, _, rfl, h⟩
  · exact h.elim
def po_iadd : pm_Op := fun N _ _ _ _ s => match s with
  | (ls, st, x) => pk_ii st fun a b r => N (ls, .int (a + b) :: r, x)
theorem ps_iadd {E : pm_E} {y pc : Nat} (hd : decode (pm_cd y) pc = .ok (.iadd, 1)) : pm_Snd E y pc (pc + 1) po_iadd := by
  intro N J C M Q S hN hJ hC hM h
  obtain ⟨ls, st, x⟩ := S
  obtain ⟨a, b, r, rfl, h⟩ := pk_ii_of h
  intro n0 p e s m args below meth c H locs la QQ F hP hS hl hk1 hk2 hn hend
  exact lv_iadd F.1 F.2.1 hd  (hN _ h n0 p e s m args below meth c H locs la QQ F hP hS hl hk1 hk2 hn hend)
def po_isub : pm_Op := fun N _ _ _ _ s => match s with
  | (ls, st, x) => pk_ii st fun a b r => N (ls, .int (a - b) :: r, x)
theorem ps_isub {E : pm_E} {y pc : Nat} (hd : decode (pm_cd y) pc = .ok (.isub, 1)) : pm_Snd E y pc (pc + 1) po_isub := by
  intro N J C M Q S hN hJ hC hM h
  obtain ⟨ls, st, x⟩ := S
  obtain ⟨a, b, r, rfl, h⟩ := pk_ii_of h
  intro n0 p e s m args below meth c H locs la QQ F hP hS hl hk1 hk2 hn hend
  exact lv_isub F.1 F.2.1 hd  (hN _ h n0 p e s m args below meth c H locs la QQ F hP hS hl hk1 hk2 hn hend)
def po_imul : pm_Op := fun N _ _ _ _ s => match s with
  | (ls, st, x) => pk_ii st fun a b r => N (ls, .int (a * b) :: r, x)
theorem ps_imul {E : pm_E} {y pc : Nat} (hd : decode (pm_cd y) pc = .ok (.imul, 1)) : pm_Snd E y pc (pc + 1) po_imul := by
  intro N J C M Q S hN hJ hC hM h
  obtain ⟨ls, st, x⟩ := S
  obtain ⟨a, b, r, rfl, h⟩ := pk_ii_of h
  intro n0 p e s m args below meth c H locs la QQ F hP hS hl hk1 hk2 hn hend
  exact lv_imul F.1 F.2.1 hd  (hN _ h n0 p e s m args below meth c H locs la QQ F hP hS hl hk1 hk2 hn hend)
def po_iand : pm_Op := fun N _ _ _ _ s => match s with
  | (ls, st, x) => pk_ii st fun a b r => N (ls, .int (a &&& b) :: r, x)
theorem ps_iand {E : pm_E} {y pc : Nat} (hd : decode (pm_cd y) pc = .ok (.iand, 1)) : pm_Snd E y pc (pc + 1) po_iand := by
  intro N J C M Q S hN hJ hC hM h
  obtain ⟨ls, st, x⟩ := S
  obtain ⟨a, b, r, rfl, h⟩ := pk_ii_of h
  intro n0 p e s m args below meth c H locs la QQ F hP hS hl hk1 hk2 hn hend
  exact lv_iand F.1 F.2.1 hd  (hN _ h n0 p e s m args below meth c H locs la QQ F hP hS hl hk1 hk2 hn hend)
def po_ior : pm_Op := fun N _ _ _ _ s => match s with
  | (ls, st, x) => pk_ii st fun a b r => N (ls, .int (a ||| b) :: r, x)
theorem ps_ior {E : pm_E} {y pc : Nat} (hd : decode (pm_cd y) pc = .ok (.ior, 1)) : pm_Snd E y pc (pc + 1) po_ior := by
  intro N J C M Q S hN hJ hC hM h
  obtain ⟨ls, st, x⟩ := S
  obtain ⟨a, b, r, rfl, h⟩ := pk_ii_of h
  intro n0 p e s m args below meth c H locs la QQ F hP hS hl hk1 hk2 hn hend
  exact lv_ior F.1 F.2.1 hd  (hN _ h n0 p e s m args below meth c H locs la QQ F hP hS hl hk1 hk2 hn hend)
def po_ixor : pm_Op := fun N _ _ _ _ s => match s with
  | (ls, st, x) => pk_ii st fun a b r => N (ls, .int (a ^^^ b) :: r, x)
theorem ps_ixor {E : pm_E} {y pc : Nat} (hd : decode (pm_cd y) pc = .ok (.ixor, 1)) : pm_Snd E y pc (pc + 1) po_ixor := by
  intro N J C M Q S hN hJ hC hM h
  obtain ⟨ls, st, x⟩ := S
  obtain ⟨a, b, r, rfl, h⟩ := pk_ii_of h
  intro n0 p e s m args below meth c H locs la QQ F hP hS hl hk1 hk2 hn hend
  exact lv_ixor F.1 F.2.1 hd  (hN _ h n0 p e s m args below meth c H locs la QQ F hP hS hl hk1 hk2 hn hend)
def po_ladd : pm_Op := fun N _ _ _ _ s => match s with
  | (ls, st, x) => pk_ll st fun a b r => N (ls, .long (a + b) :: r, x)
theorem ps_ladd {E : pm_E} {y pc : Nat} (hd : decode (pm_cd y) pc = .ok (.ladd, 1)) : pm_Snd E y pc (pc + 1) po_ladd := by
  intro N J C M Q S hN hJ hC hM h
  obtain ⟨ls, st, x⟩ := S
  obtain ⟨a, b, r, rfl, h⟩ := pk_ll_of h
  intro n0 p e s m args below meth c H locs la QQ F hP hS hl hk1 hk2 hn hend
  exact lv_ladd F.1 F.2.1 hd  (hN _ h n0 p e s m args below meth c H locs la QQ F hP hS hl hk1 hk2 hn hend)
def po_lsub : pm_Op := fun N _ _ _ _ s => match s with
  | (ls, st, x) => pk_ll st fun a b r => N (ls, .long (a - b) :: r, x)
theorem ps_lsub {E : pm_E} {y pc : Nat} (hd : decode (pm_cd y) pc = .ok (.lsub, 1)) : pm_Snd E y pc (pc + 1) po_lsub := by
  intro N J C M Q S hN hJ hC hM h
  obtain ⟨ls, st, x⟩ := S
  obtain ⟨a, b, r, rfl, h⟩ := pk_ll_of h
  intro n0 p e s m args below meth c H locs la QQ F hP hS hl hk1 hk2 hn hend
  exact lv_lsub F.1 F.2.1 hd  (hN _ h n0 p e s m args below meth c H locs la QQ F hP hS hl hk1 hk2 hn hend)
def po_lmul : pm_Op := fun N _ _ _ _ s => match s with
  | (ls, st, x) => pk_ll st fun a b r => N (ls, .long (a * b) :: r, x)
theorem ps_lmul {E : pm_E} {y pc : Nat} (hd : decode (pm_cd y) pc = .ok (.lmul, 1)) : pm_Snd E y pc (pc + 1) po_lmul := by
  intro N J C M Q S hN hJ hC hM h
  obtain ⟨ls, st, x⟩ := S
  obtain ⟨a, b, r, rfl, h⟩ := pk_ll_of h
  intro n0 p e s m args below meth c H locs la QQ F hP hS hl hk1 hk2 hn hend
  exact lv_lmul F.1 F.2.1 hd  (hN _ h n0 p e s m args below meth c H locs la QQ F hP hS hl hk1 hk2 hn hend)
def po_land : pm_Op := fun N _ _ _ _ s => match s with
  | (ls, st, x) => pk_ll st fun a b r => N (ls, .long (a &&& b) :: r, x)
theorem ps_land {E : pm_E} {y pc : Nat} (hd : decode (pm_cd y) pc = .ok (.land, 1)) : pm_Snd E y pc (pc + 1) po_land := by
  intro N J C M Q S hN hJ hC hM h
  obtain ⟨ls, st, x⟩ := S
  obtain ⟨a, b, r, rfl, h⟩ := pk_ll_of h
  intro n0 p e s m args below meth c H locs la QQ F hP hS hl hk1 hk2 hn hend
  exact lv_land F.1 F.2.1 hd  (hN _ h n0 p e s m args below meth c H locs la QQ F hP hS hl hk1 hk2 hn hend)
def po_lor : pm_Op := fun N _ _ _ _ s => match s with
  | (ls, st, x) => pk_ll st fun a b r => N (ls, .long (a ||| b) :: r, x)
theorem ps_lor {E : pm_E} {y pc : Nat} (hd : decode (pm_cd y) pc = .ok (.lor, 1)) : pm_Snd E y pc (pc + 1) po_lor := by
  intro N J C M Q S hN hJ hC hM h
  obtain ⟨ls, st, x⟩ := S
  obtain ⟨a, b, r, rfl, h⟩ := pk_ll_of h
  intro n0 p e s m args below meth c H locs la QQ F hP hS hl hk1 hk2 hn hend
  exact lv_lor F.1 F.2.1 hd  (hN _ h n0 p e s m args below meth c H locs la QQ F hP hS hl hk1 hk2 hn hend)
def po_lxor : pm_Op := fun N _ _ _ _ s => match s with
  | (ls, st, x) => pk_ll st fun a b r => N (ls, .long (a ^^^ b) :: r, x)
theorem ps_lxor {E : pm_E} {y pc : Nat} (hd : decode (pm_cd y) pc = .ok (.lxor, 1)) : pm_Snd E y pc (pc + 1) po_lxor := by
  intro N J C M Q S hN hJ hC hM h
  obtain ⟨ls, st, x⟩ := S
  obtain ⟨a, b, r, rfl, h⟩ := pk_ll_of h
  intro n0 p e s m args below meth c H locs la QQ F hP hS hl hk1 hk2 hn hend
  exact lv_lxor F.1 F.2.1 hd  (hN _ h n0 p e s m args below meth c H locs la QQ F hP hS hl hk1 hk2 hn hend)
def po_ldiv : pm_Op := fun N _ _ _ _ s => match s with
  | (ls, st, x) => pk_ll st fun a b r => (¬ b = 0) ∧ N (ls, .long (a / b) :: r, x)
theorem ps_ldiv {E : pm_E} {y pc : Nat} (hd : decode (pm_cd y) pc = .ok (.ldiv, 1)) : pm_Snd E y pc (pc + 1) po_ldiv := by
  intro N J C M Q S hN hJ hC hM h
  obtain ⟨ls, st, x⟩ := S
  obtain ⟨a, b, r, rfl, h⟩ := pk_ll_of h
  obtain ⟨hne, h⟩ := h
  intro n0 p e s m args below meth c H locs la QQ F hP hS hl hk1 hk2 hn hend
  exact lv_ldiv F.1 F.2.1 hd hne (hN _ h n0 p e s m args below meth c H locs la QQ F hP hS hl hk1 hk2 hn hend)
def po_irem : pm_Op := fun N _ _ _ _ s => match s with
  | (ls, st, x) => pk_ii st fun a b r => (¬ b = 0) ∧ N (ls, .int (a - a / b * b) :: r, x)
theorem ps_irem {E : pm_E} {y pc : Nat} (hd : decode (pm_cd y) pc = .ok (.irem, 1)) : pm_Snd E y pc (pc + 1) po_irem := by
  intro N J C M Q S hN hJ hC hM h
  obtain ⟨ls, st, x⟩ := S
  obtain ⟨a, b, r, rfl, h⟩ := pk_ii_of h
  obtain ⟨hne, h⟩ := h
  intro n0 p e s m args below meth c H locs la QQ F hP hS hl hk1 hk2 hn hend
  exact lv_irem F.1 F.2.1 hd hne (hN _ h n0 p e s m args below meth c H locs la QQ F hP hS hl hk1 hk2 hn hend)
def po_ishl : pm_Op := fun N _ _ _ _ s => match s with
  | (ls, st, x) => pk_ii st fun a b r => N (ls, .int (a <<< (b &&& 31)) :: r, x)
theorem ps_ishl {E : pm_E} {y pc : Nat} (hd : decode (pm_cd y) pc = .ok (.ishl, 1)) : pm_Snd E y pc (pc + 1) po_ishl := by
  intro N J C M Q S hN hJ hC hM h
  obtain ⟨ls, st, x⟩ := S
  obtain ⟨a, b, r, rfl, h⟩ := pk_ii_of h
  intro n0 p e s m args below meth c H locs la QQ F hP hS hl hk1 hk2 hn hend
  exact lv_ishl F.1 F.2.1 hd  (hN _ h n0 p e s m args below meth c H locs la QQ F hP hS hl hk1 hk2 hn hend)
def po_ishr : pm_Op := fun N _ _ _ _ s => match s with
  | (ls, st, x) => pk_ii st fun a b r => N (ls, .int (a >>> (b &&& 31)) :: r, x)
theorem ps_ishr {E : pm_E} {y pc : Nat} (hd : decode (pm_cd y) pc = .ok (.ishr, 1)) : pm_Snd E y pc (pc + 1) po_ishr := by
  intro N J C M Q S hN hJ hC hM h
  obtain ⟨ls, st, x⟩ := S
  obtain ⟨a, b, r, rfl, h⟩ := pk_ii_of h
  intro n0 p e s m args below meth c H locs la QQ F hP hS hl hk1 hk2 hn hend
  exact lv_ishr F.1 F.2.1 hd  (hN _ h n0 p e s m args below meth c H locs la QQ F hP hS hl hk1 hk2 hn hend)
def po_iushr : pm_Op := fun N _ _ _ _ s => match s with
  | (ls, st, x) => pk_ii st fun a b r => N (ls, .int ((a.toUInt32 >>> (b.toUInt32 &&& Int32.toUInt32 31)).toInt32) :: r, x)
theorem ps_iushr {E : pm_E} {y pc : Nat} (hd : decode (pm_cd y) pc = .ok (.iushr, 1)) : pm_Snd E y pc (pc + 1) po_iushr := by
  intro N J C M Q S hN hJ hC hM h
  obtain ⟨ls, st, x⟩ := S
  obtain ⟨a, b, r, rfl, h⟩ := pk_ii_of h
  intro n0 p e s m args below meth c H locs la QQ F hP hS hl hk1 hk2 hn hend
  exact lv_iushr F.1 F.2.1 hd rfl (hN _ h n0 p e s m args below meth c H locs la QQ F hP hS hl hk1 hk2 hn hend)
def po_lshl : pm_Op := fun N _ _ _ _ s => match s with
  | (ls, st, x) => pk_li st fun a b r => N (ls, .long (a <<< (b.toInt64 &&& 63)) :: r, x)
theorem ps_lshl {E : pm_E} {y pc : Nat} (hd : decode (pm_cd y) pc = .ok (.lshl, 1)) : pm_Snd E y pc (pc + 1) po_lshl := by
  intro N J C M Q S hN hJ hC hM h
  obtain ⟨ls, st, x⟩ := S
  obtain ⟨a, b, r, rfl, h⟩ := pk_li_of h
  intro n0 p e s m args below meth c H locs la QQ F hP hS hl hk1 hk2 hn hend
  exact lv_lshl F.1 F.2.1 hd rfl (hN _ h n0 p e s m args below meth c H locs la QQ F hP hS hl hk1 hk2 hn hend)
def po_lshr : pm_Op := fun N _ _ _ _ s => match s with
  | (ls, st, x) => pk_li st fun a b r => N (ls, .long (a >>> (b.toInt64 &&& 63)) :: r, x)
theorem ps_lshr {E : pm_E} {y pc : Nat} (hd : decode (pm_cd y) pc = .ok (.lshr, 1)) : pm_Snd E y pc (pc + 1) po_lshr := by
  intro N J C M Q S hN hJ hC hM h
  obtain ⟨ls, st, x⟩ := S
  obtain ⟨a, b, r, rfl, h⟩ := pk_li_of h
  intro n0 p e s m args below meth c H locs la QQ F hP hS hl hk1 hk2 hn hend
  exact lv_lshr F.1 F.2.1 hd rfl (hN _ h n0 p e s m args below meth c H locs la QQ F hP hS hl hk1 hk2 hn hend)
def po_i2l : pm_Op := fun N _ _ _ _ s => match s with
  | (ls, st, x) => pk_i st fun a r => N (ls, .long a.toInt64 :: r, x)
theorem ps_i2l {E : pm_E} {y pc : Nat} (hd : decode (pm_cd y) pc = .ok (.i2l, 1)) : pm_Snd E y pc (pc + 1) po_i2l := by
  intro N J C M Q S hN hJ hC hM h
  obtain ⟨ls, st, x⟩ := S
  obtain ⟨a, r, rfl, h⟩ := pk_i_of h
  intro n0 p e s m args below meth c H locs la QQ F hP hS hl hk1 hk2 hn hend
  exact lv_i2l F.1 F.2.1 hd rfl (hN _ h n0 p e s m args below meth c H locs la QQ F hP hS hl hk1 hk2 hn hend)
def po_l2i : pm_Op := fun N _ _ _ _ s => match s with
  | (ls, st, x) => pk_l st fun a r => N (ls, .int a.toInt32 :: r, x)
theorem ps_l2i {E : pm_E} {y pc : Nat} (hd : decode (pm_cd y) pc = .ok (.l2i, 1)) : pm_Snd E y pc (pc + 1) po_l2i := by
  intro N J C M Q S hN hJ hC hM h
  obtain ⟨ls, st, x⟩ := S
  obtain ⟨a, r, rfl, h⟩ := pk_l_of h
  intro n0 p e s m args below meth c H locs la QQ F hP hS hl hk1 hk2 hn hend
  exact lv_l2i F.1 F.2.1 hd rfl (hN _ h n0 p e s m args below meth c H locs la QQ F hP hS hl hk1 hk2 hn hend)
def po_i2c : pm_Op := fun N _ _ _ _ s => match s with
  | (ls, st, x) => pk_i st fun a r => N (ls, .int (a.toUInt32 % 65536).toInt32 :: r, x)
theorem ps_i2c {E : pm_E} {y pc : Nat} (hd : decode (pm_cd y) pc = .ok (.i2c, 1)) : pm_Snd E y pc (pc + 1) po_i2c := by
  intro N J C M Q S hN hJ hC hM h
  obtain ⟨ls, st, x⟩ := S
  obtain ⟨a, r, rfl, h⟩ := pk_i_of h
  intro n0 p e s m args below meth c H locs la QQ F hP hS hl hk1 hk2 hn hend
  exact lv_i2c F.1 F.2.1 hd rfl (hN _ h n0 p e s m args below meth c H locs la QQ F hP hS hl hk1 hk2 hn hend)
def po_ic (v : Int32) : pm_Op := fun N _ _ _ _ s => match s with
  | (ls, st, x) => N (ls, .int v :: st, x)
def po_lc (v : Int64) : pm_Op := fun N _ _ _ _ s => match s with
  | (ls, st, x) => N (ls, .long v :: st, x)
theorem ps_iconst {E : pm_E} {y pc : Nat} {n : Int} {v : Int32} (hd : decode (pm_cd y) pc = .ok (.iconst n, 1)) (hv : Int32.ofInt n = v) : pm_Snd E y pc (pc + 1) (po_ic v) := by
  intro N J C M Q S hN hJ hC hM h
  obtain ⟨ls, st, x⟩ := S
  intro n0 p e s m args below meth c H locs la QQ F hP hS hl hk1 hk2 hn hend
  exact lv_iconst F.1 F.2.1 hd hv (hN _ h n0 p e s m args below meth c H locs la QQ F hP hS hl hk1 hk2 hn hend)
theorem ps_bipush {E : pm_E} {y pc : Nat} {n : Int} {v : Int32} (hd : decode (pm_cd y) pc = .ok (.bipush n, 2)) (hv : (Int8.ofInt n).toInt32 = v) : pm_Snd E y pc (pc + 2) (po_ic v) := by
  intro N J C M Q S hN hJ hC hM h
  obtain ⟨ls, st, x⟩ := S
  intro n0 p e s m args below meth c H locs la QQ F hP hS hl hk1 hk2 hn hend
  exact lv_bipush F.1 F.2.1 hd hv (hN _ h n0 p e s m args below meth c H locs la QQ F hP hS hl hk1 hk2 hn hend)
theorem ps_sipush {E : pm_E} {y pc : Nat} {n : Int} {v : Int32} (hd : decode (pm_cd y) pc = .ok (.sipush n, 3)) (hv : (Int16.ofInt n).toInt32 = v) : pm_Snd E y pc (pc + 3) (po_ic v) := by
  intro N J C M Q S hN hJ hC hM h
  obtain ⟨ls, st, x⟩ := S
  intro n0 p e s m args below meth c H locs la QQ F hP hS hl hk1 hk2 hn hend
  exact lv_sipush F.1 F.2.1 hd hv (hN _ h n0 p e s m args below meth c H locs la QQ F hP hS hl hk1 hk2 hn hend)
theorem ps_lconst {E : pm_E} {y pc : Nat} {n : Fin 2} {v : Int64} (hd : decode (pm_cd y) pc = .ok (.lconst n, 1)) (hv : Int64.ofNat (n : Nat) = v) : pm_Snd E y pc (pc + 1) (po_lc v) := by
  intro N J C M Q S hN hJ hC hM h
  obtain ⟨ls, st, x⟩ := S
  intro n0 p e s m args below meth c H locs la QQ F hP hS hl hk1 hk2 hn hend
  exact lv_lconst F.1 F.2.1 hd hv (hN _ h n0 p e s m args below meth c H locs la QQ F hP hS hl hk1 hk2 hn hend)
theorem ps_ldc {E : pm_E} {y pc : Nat} {n : Nat} {v : Int32} (hd : decode (pm_cd y) pc = .ok (.ldc n, 2)) (hw : Cond.constant (pm_nm y).cls n v ∈ pm_ws) : pm_Snd E y pc (pc + 2) (po_ic v) := by
  intro N J C M Q S hN hJ hC hM h
  obtain ⟨ls, st, x⟩ := S
  intro n0 p e s m args below meth c H locs la QQ F hP hS hl hk1 hk2 hn hend
  exact lv_ldc F.1 F.2.1 F.2.2.2.1 (F.2.2.2.2.1 _ hw) hd (hN _ h n0 p e s m args below meth c H locs la QQ F hP hS hl hk1 hk2 hn hend)
theorem ps_ldcw {E : pm_E} {y pc : Nat} {n : Nat} {v : Int32} (hd : decode (pm_cd y) pc = .ok (.ldc_w n, 3)) (hw : Cond.constant (pm_nm y).cls n v ∈ pm_ws) : pm_Snd E y pc (pc + 3) (po_ic v) := by
  intro N J C M Q S hN hJ hC hM h
  obtain ⟨ls, st, x⟩ := S
  intro n0 p e s m args below meth c H locs la QQ F hP hS hl hk1 hk2 hn hend
  exact lv_ldcw F.1 F.2.1 F.2.2.2.1 (F.2.2.2.2.1 _ hw) hd (hN _ h n0 p e s m args below meth c H locs la QQ F hP hS hl hk1 hk2 hn hend)
theorem ps_ldc2 {E : pm_E} {y pc : Nat} {n : Nat} {v : Int64} (hd : decode (pm_cd y) pc = .ok (.ldc2_w n, 3)) (hw : Cond.constantLong (pm_nm y).cls n v ∈ pm_ws) : pm_Snd E y pc (pc + 3) (po_lc v) := by
  intro N J C M Q S hN hJ hC hM h
  obtain ⟨ls, st, x⟩ := S
  intro n0 p e s m args below meth c H locs la QQ F hP hS hl hk1 hk2 hn hend
  exact lv_ldc2 F.1 F.2.1 F.2.2.2.1 (F.2.2.2.2.1 _ hw) hd (hN _ h n0 p e s m args below meth c H locs la QQ F hP hS hl hk1 hk2 hn hend)
def pk_gi (o : Option Value) (k : Int32 → Prop) : Prop := match o with
  | some (.int v) => k v
  | _ => False
theorem pk_gi_of {o : Option Value} {k : Int32 → Prop} (h : pk_gi o k) : ∃ v : Int32, o = some (.int v) ∧ k v := by
  unfold pk_gi at h
  split at h
  · exact ⟨_, rfl, h⟩
  · exact h.elim
def pk_gl (o : Option Value) (k : Int64 → Prop) : Prop := match o with
  | some (.long v) => k v
  | _ => False
theorem pk_gl_of {o : Option Value} {k : Int64 → Prop} (h : pk_gl o k) : ∃ v : Int64, o = some (.long v) ∧ k v := by
  unfold pk_gl at h
  split at h
  · exact ⟨_, rfl, h⟩
  · exact h.elim
def pk_ga (o : Option Value) (k : Nat → Prop) : Prop := match o with
  | some (.ref v) => k v
  | _ => False
theorem pk_ga_of {o : Option Value} {k : Nat → Prop} (h : pk_ga o k) : ∃ v : Nat, o = some (.ref v) ∧ k v := by
  unfold pk_ga at h
  split at h
  · exact ⟨_, rfl, h⟩
  · exact h.elim
def pk_n3 (a : Nat) (P : Prop) : Prop := match Nat.beq a 3 with
  | true => False
  | false => P
theorem pk_n3_of {a : Nat} {P : Prop} (h : pk_n3 a P) : ¬ a = 3 ∧ P := by
  unfold pk_n3 at h
  split at h
  · exact h.elim
  · rename_i q
    exact ⟨fun e => by rw [e] at q; exact absurd q (by decide), h⟩
theorem pm_v_ref {E : pm_E} {a : Nat} (h : ¬ a = 3) : pm_v E (.ref a) = .ref (pm_ad E a) := by
  show (if a = 3 then _ else _) = _
  rw [if_neg h]
theorem pm_v_ref4 (E : pm_E) (k : Nat) : pm_v E (.ref (k + 4)) = .ref (pm_ad E (k + 4)) := pm_v_ref (by omega)
def po_il (k : Nat) : pm_Op := fun N _ _ _ _ s => match s with
  | (ls, st, x) => pk_gi (pl_get ls k) fun v => N (ls, .int v :: st, x)
theorem ps_il {E : pm_E} {y pc : Nat} {k : Nat} (hd : decode (pm_cd y) pc = .ok (.iload k, 2)) : pm_Snd E y pc (pc + 2) (po_il k) := by
  intro N J C M Q S hN hJ hC hM h
  obtain ⟨ls, st, x⟩ := S
  obtain ⟨v, hv, h⟩ := pk_gi_of h
  intro n0 p e s m args below meth c H locs la QQ F hP hS hl hk1 hk2 hn hend
  have hg := pl_at hl hv
  have hk := hN _ h n0 p e s m args below meth c H locs la QQ F hP hS hl hk1 hk2 hn hend
  exact lv_iload F.1 F.2.1 hd hg hk
theorem ps_iln {E : pm_E} {y pc : Nat} {kf : Fin 4} {k : Nat} (hd : decode (pm_cd y) pc = .ok (.iload_n kf, 1)) (hf : (kf : Nat) = k) : pm_Snd E y pc (pc + 1) (po_il k) := by
  intro N J C M Q S hN hJ hC hM h
  obtain ⟨ls, st, x⟩ := S
  obtain ⟨v, hv, h⟩ := pk_gi_of h
  intro n0 p e s m args below meth c H locs la QQ F hP hS hl hk1 hk2 hn hend
  have hg := pl_at hl hv
  have hk := hN _ h n0 p e s m args below meth c H locs la QQ F hP hS hl hk1 hk2 hn hend
  exact lv_iload_n F.1 F.2.1 hd hf hg hk
def po_ll (k : Nat) : pm_Op := fun N _ _ _ _ s => match s with
  | (ls, st, x) => pk_gl (pl_get ls k) fun v => N (ls, .long v :: st, x)
theorem ps_ll {E : pm_E} {y pc : Nat} {k : Nat} (hd : decode (pm_cd y) pc = .ok (.lload k, 2)) : pm_Snd E y pc (pc + 2) (po_ll k) := by
  intro N J C M Q S hN hJ hC hM h
  obtain ⟨ls, st, x⟩ := S
  obtain ⟨v, hv, h⟩ := pk_gl_of h
  intro n0 p e s m args below meth c H locs la QQ F hP hS hl hk1 hk2 hn hend
  have hg := pl_at hl hv
  have hk := hN _ h n0 p e s m args below meth c H locs la QQ F hP hS hl hk1 hk2 hn hend
  exact lv_lload F.1 F.2.1 hd hg hk
theorem ps_lln {E : pm_E} {y pc : Nat} {kf : Fin 4} {k : Nat} (hd : decode (pm_cd y) pc = .ok (.lload_n kf, 1)) (hf : (kf : Nat) = k) : pm_Snd E y pc (pc + 1) (po_ll k) := by
  intro N J C M Q S hN hJ hC hM h
  obtain ⟨ls, st, x⟩ := S
  obtain ⟨v, hv, h⟩ := pk_gl_of h
  intro n0 p e s m args below meth c H locs la QQ F hP hS hl hk1 hk2 hn hend
  have hg := pl_at hl hv
  have hk := hN _ h n0 p e s m args below meth c H locs la QQ F hP hS hl hk1 hk2 hn hend
  exact lv_lload_n F.1 F.2.1 hd hf hg hk
def po_al (k : Nat) : pm_Op := fun N _ _ _ _ s => match s with
  | (ls, st, x) => pk_ga (pl_get ls k) fun v => pk_n3 v (N (ls, .ref v :: st, x))
theorem ps_al {E : pm_E} {y pc : Nat} {k : Nat} (hd : decode (pm_cd y) pc = .ok (.aload k, 2)) : pm_Snd E y pc (pc + 2) (po_al k) := by
  intro N J C M Q S hN hJ hC hM h
  obtain ⟨ls, st, x⟩ := S
  obtain ⟨v, hv, h⟩ := pk_ga_of h
  obtain ⟨h3, h⟩ := pk_n3_of h
  intro n0 p e s m args below meth c H locs la QQ F hP hS hl hk1 hk2 hn hend
  have hg := pl_at hl hv
  rw [pm_v_ref h3] at hg
  have hk := hN _ h n0 p e s m args below meth c H locs la QQ F hP hS hl hk1 hk2 hn hend
  rw [List.map_cons, pm_v_ref h3] at hk
  exact lv_aload F.1 F.2.1 hd hg hk
theorem ps_aln {E : pm_E} {y pc : Nat} {kf : Fin 4} {k : Nat} (hd : decode (pm_cd y) pc = .ok (.aload_n kf, 1)) (hf : (kf : Nat) = k) : pm_Snd E y pc (pc + 1) (po_al k) := by
  intro N J C M Q S hN hJ hC hM h
  obtain ⟨ls, st, x⟩ := S
  obtain ⟨v, hv, h⟩ := pk_ga_of h
  obtain ⟨h3, h⟩ := pk_n3_of h
  intro n0 p e s m args below meth c H locs la QQ F hP hS hl hk1 hk2 hn hend
  have hg := pl_at hl hv
  rw [pm_v_ref h3] at hg
  have hk := hN _ h n0 p e s m args below meth c H locs la QQ F hP hS hl hk1 hk2 hn hend
  rw [List.map_cons, pm_v_ref h3] at hk
  exact lv_aload_n F.1 F.2.1 hd hf hg hk
def po_is (k : Nat) : pm_Op := fun N _ _ _ _ s => match s with
  | (ls, st, x) => pk_i st fun a r => N (pl_set1 ls k (.int a), r, x)
theorem ps_is {E : pm_E} {y pc : Nat} {k : Nat} (hd : decode (pm_cd y) pc = .ok (.istore k, 2)) (hb : k < pm_mL y) : pm_Snd E y pc (pc + 2) (po_is k) := by
  intro N J C M Q S hN hJ hC hM h
  obtain ⟨ls, st, x⟩ := S
  obtain ⟨a, r, rfl, h⟩ := pk_i_of h
  intro n0 p e s m args below meth c H locs la QQ F hP hS hl hk1 hk2 hn hend
  have hfc := pm_fm_cat F.2.2.2.2.2.2.2.2.2.2.1
  exact lv_istore F.1 F.2.1 hd (pl_to hl) hb rfl (fun la2 hl2 => hN _ h n0 p e s m args below meth c H locs la2 QQ F hP hS (pl_of1 (v := .int a) hfc (hl2)) hk1 hk2 hn hend)
theorem ps_isn {E : pm_E} {y pc : Nat} {kf : Fin 4} {k : Nat} (hd : decode (pm_cd y) pc = .ok (.istore_n kf, 1)) (hf : (kf : Nat) = k) (hb : k < pm_mL y) : pm_Snd E y pc (pc + 1) (po_is k) := by
  intro N J C M Q S hN hJ hC hM h
  obtain ⟨ls, st, x⟩ := S
  obtain ⟨a, r, rfl, h⟩ := pk_i_of h
  intro n0 p e s m args below meth c H locs la QQ F hP hS hl hk1 hk2 hn hend
  have hfc := pm_fm_cat F.2.2.2.2.2.2.2.2.2.2.1
  exact lv_istore_n F.1 F.2.1 hd hf (pl_to hl) hb rfl (fun la2 hl2 => hN _ h n0 p e s m args below meth c H locs la2 QQ F hP hS (pl_of1 (v := .int a) hfc (hl2)) hk1 hk2 hn hend)
def po_ls (k : Nat) : pm_Op := fun N _ _ _ _ s => match s with
  | (ls, st, x) => pk_l st fun a r => N (pl_set2 ls k (.long a), r, x)
theorem ps_ls {E : pm_E} {y pc : Nat} {k : Nat} (hd : decode (pm_cd y) pc = .ok (.lstore k, 2)) (hb : k + 1 < pm_mL y) : pm_Snd E y pc (pc + 2) (po_ls k) := by
  intro N J C M Q S hN hJ hC hM h
  obtain ⟨ls, st, x⟩ := S
  obtain ⟨a, r, rfl, h⟩ := pk_l_of h
  intro n0 p e s m args below meth c H locs la QQ F hP hS hl hk1 hk2 hn hend
  have hfc := pm_fm_cat F.2.2.2.2.2.2.2.2.2.2.1
  exact lv_lstore F.1 F.2.1 hd (pl_to hl) hb rfl (fun la2 hl2 => hN _ h n0 p e s m args below meth c H locs la2 QQ F hP hS (pl_of2 (v := .long a) hfc (hl2)) hk1 hk2 hn hend)
theorem ps_lsn {E : pm_E} {y pc : Nat} {kf : Fin 4} {k : Nat} (hd : decode (pm_cd y) pc = .ok (.lstore_n kf, 1)) (hf : (kf : Nat) = k) (hb : k + 1 < pm_mL y) : pm_Snd E y pc (pc + 1) (po_ls k) := by
  intro N J C M Q S hN hJ hC hM h
  obtain ⟨ls, st, x⟩ := S
  obtain ⟨a, r, rfl, h⟩ := pk_l_of h
  intro n0 p e s m args below meth c H locs la QQ F hP hS hl hk1 hk2 hn hend
  have hfc := pm_fm_cat F.2.2.2.2.2.2.2.2.2.2.1
  exact lv_lstore_n F.1 F.2.1 hd hf (pl_to hl) hb rfl (fun la2 hl2 => hN _ h n0 p e s m args below meth c H locs la2 QQ F hP hS (pl_of2 (v := .long a) hfc (hl2)) hk1 hk2 hn hend)
def po_as (k : Nat) : pm_Op := fun N _ _ _ _ s => match s with
  | (ls, st, x) => pk_r st fun a r => pk_n3 a (N (pl_set1 ls k (.ref a), r, x))
theorem ps_as {E : pm_E} {y pc : Nat} {k : Nat} (hd : decode (pm_cd y) pc = .ok (.astore k, 2)) (hb : k < pm_mL y) : pm_Snd E y pc (pc + 2) (po_as k) := by
  intro N J C M Q S hN hJ hC hM h
  obtain ⟨ls, st, x⟩ := S
  obtain ⟨a, r, rfl, h⟩ := pk_r_of h
  obtain ⟨h3, h⟩ := pk_n3_of h
  intro n0 p e s m args below meth c H locs la QQ F hP hS hl hk1 hk2 hn hend
  have hfc := pm_fm_cat F.2.2.2.2.2.2.2.2.2.2.1
  show W p E.1 e (pm_rm y) s m args below meth c H locs _ _ QQ (F0 m pc la (List.map (pm_v E) (.ref a :: r)))
  rw [List.map_cons, pm_v_ref h3]
  exact lv_astore F.1 F.2.1 hd (pl_to hl) hb rfl (fun la2 hl2 => hN _ h n0 p e s m args below meth c H locs la2 QQ F hP hS (pl_of1 (v := .ref a) hfc (by rw [pm_v_ref h3]; exact hl2)) hk1 hk2 hn hend)
theorem ps_asn {E : pm_E} {y pc : Nat} {kf : Fin 4} {k : Nat} (hd : decode (pm_cd y) pc = .ok (.astore_n kf, 1)) (hf : (kf : Nat) = k) (hb : k < pm_mL y) : pm_Snd E y pc (pc + 1) (po_as k) := by
  intro N J C M Q S hN hJ hC hM h
  obtain ⟨ls, st, x⟩ := S
  obtain ⟨a, r, rfl, h⟩ := pk_r_of h
  obtain ⟨h3, h⟩ := pk_n3_of h
  intro n0 p e s m args below meth c H locs la QQ F hP hS hl hk1 hk2 hn hend
  have hfc := pm_fm_cat F.2.2.2.2.2.2.2.2.2.2.1
  show W p E.1 e (pm_rm y) s m args below meth c H locs _ _ QQ (F0 m pc la (List.map (pm_v E) (.ref a :: r)))
  rw [List.map_cons, pm_v_ref h3]
  exact lv_astore_n F.1 F.2.1 hd hf (pl_to hl) hb rfl (fun la2 hl2 => hN _ h n0 p e s m args below meth c H locs la2 QQ F hP hS (pl_of1 (v := .ref a) hfc (by rw [pm_v_ref h3]; exact hl2)) hk1 hk2 hn hend)
def po_iinc (k : Nat) (z : Int32) : pm_Op := fun N _ _ _ _ s => match s with
  | (ls, st, x) => pk_gi (pl_get ls k) fun v => N (pl_set1 ls k (.int (v + z)), st, x)
theorem ps_iinc {E : pm_E} {y pc k : Nat} {n : Int} {z : Int32} (hd : decode (pm_cd y) pc = .ok (.iinc k n, 3)) (hz : Int32.ofInt n = z) (hb : k < pm_mL y) : pm_Snd E y pc (pc + 3) (po_iinc k z) := by
  intro N J C M Q S hN hJ hC hM h
  obtain ⟨ls, st, x⟩ := S
  obtain ⟨v, hv, h⟩ := pk_gi_of h
  intro n0 p e s m args below meth c H locs la QQ F hP hS hl hk1 hk2 hn hend
  have hfc := pm_fm_cat F.2.2.2.2.2.2.2.2.2.2.1
  have hmem : ((k, Value.int v) : Nat × Value) ∈ pl_list E ls := pl_list_mem.mpr ⟨.int v, hv, rfl⟩
  obtain ⟨i, hi⟩ := List.getElem?_of_mem hmem
  exact lv_iinc F.1 F.2.1 hd (pl_to hl) hi (by rw [hz]) hb rfl (fun la2 hl2 => hN _ h n0 p e s m args below meth c H locs la2 QQ F hP hS (pl_of1 (v := .int (v + z)) hfc hl2) hk1 hk2 hn hend)
def pk_c1 (v : Value) (P : Prop) : Prop := match v with
  | .long _ => False
  | .double _ => False
  | _ => P
theorem pk_c1_of {v : Value} {P : Prop} (h : pk_c1 v P) : v.category = 1 ∧ P := by
  cases v <;> first | exact h.elim | exact ⟨rfl, h⟩
def po_dup : pm_Op := fun N _ _ _ _ s => match s with
  | (ls, st, x) => pk_v st fun v r => pk_c1 v (N (ls, v :: v :: r, x))
theorem ps_dup {E : pm_E} {y pc : Nat} (hd : decode (pm_cd y) pc = .ok (.dup, 1)) : pm_Snd E y pc (pc + 1) po_dup := by
  intro N J C M Q S hN hJ hC hM h
  obtain ⟨ls, st, x⟩ := S
  obtain ⟨v, r, rfl, h⟩ := pk_v_of h
  obtain ⟨h1, h⟩ := pk_c1_of h
  intro n0 p e s m args below meth c H locs la QQ F hP hS hl hk1 hk2 hn hend
  have hfc := pm_fm_cat F.2.2.2.2.2.2.2.2.2.2.1
  exact lv_dup F.1 F.2.1 hd (by rw [pm_v_cat E hfc]; exact h1) (hN _ h n0 p e s m args below meth c H locs la QQ F hP hS hl hk1 hk2 hn hend)
def po_pop : pm_Op := fun N _ _ _ _ s => match s with
  | (ls, st, x) => pk_v st fun v r => pk_c1 v (N (ls, r, x))
theorem ps_pop {E : pm_E} {y pc : Nat} (hd : decode (pm_cd y) pc = .ok (.pop, 1)) : pm_Snd E y pc (pc + 1) po_pop := by
  intro N J C M Q S hN hJ hC hM h
  obtain ⟨ls, st, x⟩ := S
  obtain ⟨v, r, rfl, h⟩ := pk_v_of h
  obtain ⟨h1, h⟩ := pk_c1_of h
  intro n0 p e s m args below meth c H locs la QQ F hP hS hl hk1 hk2 hn hend
  have hfc := pm_fm_cat F.2.2.2.2.2.2.2.2.2.2.1
  exact lv_pop F.1 F.2.1 hd (by rw [pm_v_cat E hfc]; exact h1) (hN _ h n0 p e s m args below meth c H locs la QQ F hP hS hl hk1 hk2 hn hend)
def pk_vv (st : List Value) (k : Value → Value → List Value → Prop) : Prop := match st with
  | v :: u :: r => k v u r
  | _ => False
theorem pk_vv_of {st : List Value} {k : Value → Value → List Value → Prop} (h : pk_vv st k) : ∃ (v u : Value) (r : List Value), st = v :: u :: r ∧ k v u r := by
  unfold pk_vv at h
  split at h
  · exact ⟨_, _, _, rfl, h⟩
  · exact h.elim
def po_dup2 : pm_Op := fun N _ _ _ _ s => match s with
  | (ls, st, x) => pk_vv st fun v u r => pk_c1 v (pk_c1 u (N (ls, v :: u :: v :: u :: r, x)))
theorem ps_dup2 {E : pm_E} {y pc : Nat} (hd : decode (pm_cd y) pc = .ok (.dup2, 1)) : pm_Snd E y pc (pc + 1) po_dup2 := by
  intro N J C M Q S hN hJ hC hM h
  obtain ⟨ls, st, x⟩ := S
  obtain ⟨v, u, r, rfl, h⟩ := pk_vv_of h
  obtain ⟨h1, h⟩ := pk_c1_of h
  obtain ⟨h2, h⟩ := pk_c1_of h
  intro n0 p e s m args below meth c H locs la QQ F hP hS hl hk1 hk2 hn hend
  have hfc := pm_fm_cat F.2.2.2.2.2.2.2.2.2.2.1
  exact lv_dup2_11 F.1 F.2.1 hd (by rw [pm_v_cat E hfc]; exact h1) (by rw [pm_v_cat E hfc]; exact h2) (hN _ h n0 p e s m args below meth c H locs la QQ F hP hS hl hk1 hk2 hn hend)
def po_iceq (t : Nat) : pm_Op := fun N J _ _ _ s => match s with
  | (ls, st, x) => pk_ii st fun a b r => (a = b → J t (ls, r, x)) ∧ (¬ a = b → N (ls, r, x))
theorem ps_iceq {E : pm_E} {y pc t : Nat} {off : Int} (hd : decode (pm_cd y) pc = .ok (.if_icmp .eq off, 3)) (ht : (pc : Int) + off = (t : Int)) : pm_Snd E y pc (pc + 3) (po_iceq t) := by
  intro N J C M Q S hN hJ hC hM h
  obtain ⟨ls, st, x⟩ := S
  obtain ⟨a, b, r, rfl, h⟩ := pk_ii_of h
  intro n0 p e s m args below meth c H locs la QQ F hP hS hl hk1 hk2 hn hend
  exact lv_icmp_eq F.1 F.2.1 hd ht (fun q => hJ _ _ (h.1 q) n0 p e s m args below meth c H locs la QQ F hP hS hl hk1 hk2 hn hend) (fun q => hN _ (h.2 q) n0 p e s m args below meth c H locs la QQ F hP hS hl hk1 hk2 hn hend)
def po_ifeq (t : Nat) : pm_Op := fun N J _ _ _ s => match s with
  | (ls, st, x) => pk_i st fun a r => (a = 0 → J t (ls, r, x)) ∧ (¬ a = 0 → N (ls, r, x))
theorem ps_ifeq {E : pm_E} {y pc t : Nat} {off : Int} (hd : decode (pm_cd y) pc = .ok (.ifCond .eq off, 3)) (ht : (pc : Int) + off = (t : Int)) : pm_Snd E y pc (pc + 3) (po_ifeq t) := by
  intro N J C M Q S hN hJ hC hM h
  obtain ⟨ls, st, x⟩ := S
  obtain ⟨a, r, rfl, h⟩ := pk_i_of h
  intro n0 p e s m args below meth c H locs la QQ F hP hS hl hk1 hk2 hn hend
  exact lv_if_eq F.1 F.2.1 hd ht (fun q => hJ _ _ (h.1 q) n0 p e s m args below meth c H locs la QQ F hP hS hl hk1 hk2 hn hend) (fun q => hN _ (h.2 q) n0 p e s m args below meth c H locs la QQ F hP hS hl hk1 hk2 hn hend)
def po_icne (t : Nat) : pm_Op := fun N J _ _ _ s => match s with
  | (ls, st, x) => pk_ii st fun a b r => (¬ a = b → J t (ls, r, x)) ∧ (a = b → N (ls, r, x))
theorem ps_icne {E : pm_E} {y pc t : Nat} {off : Int} (hd : decode (pm_cd y) pc = .ok (.if_icmp .ne off, 3)) (ht : (pc : Int) + off = (t : Int)) : pm_Snd E y pc (pc + 3) (po_icne t) := by
  intro N J C M Q S hN hJ hC hM h
  obtain ⟨ls, st, x⟩ := S
  obtain ⟨a, b, r, rfl, h⟩ := pk_ii_of h
  intro n0 p e s m args below meth c H locs la QQ F hP hS hl hk1 hk2 hn hend
  exact lv_icmp_ne F.1 F.2.1 hd ht (fun q => hJ _ _ (h.1 q) n0 p e s m args below meth c H locs la QQ F hP hS hl hk1 hk2 hn hend) (fun q => hN _ (h.2 q) n0 p e s m args below meth c H locs la QQ F hP hS hl hk1 hk2 hn hend)
def po_ifne (t : Nat) : pm_Op := fun N J _ _ _ s => match s with
  | (ls, st, x) => pk_i st fun a r => (¬ a = 0 → J t (ls, r, x)) ∧ (a = 0 → N (ls, r, x))
theorem ps_ifne {E : pm_E} {y pc t : Nat} {off : Int} (hd : decode (pm_cd y) pc = .ok (.ifCond .ne off, 3)) (ht : (pc : Int) + off = (t : Int)) : pm_Snd E y pc (pc + 3) (po_ifne t) := by
  intro N J C M Q S hN hJ hC hM h
  obtain ⟨ls, st, x⟩ := S
  obtain ⟨a, r, rfl, h⟩ := pk_i_of h
  intro n0 p e s m args below meth c H locs la QQ F hP hS hl hk1 hk2 hn hend
  exact lv_if_ne F.1 F.2.1 hd ht (fun q => hJ _ _ (h.1 q) n0 p e s m args below meth c H locs la QQ F hP hS hl hk1 hk2 hn hend) (fun q => hN _ (h.2 q) n0 p e s m args below meth c H locs la QQ F hP hS hl hk1 hk2 hn hend)
def po_iclt (t : Nat) : pm_Op := fun N J _ _ _ s => match s with
  | (ls, st, x) => pk_ii st fun a b r => (a < b → J t (ls, r, x)) ∧ (¬ a < b → N (ls, r, x))
theorem ps_iclt {E : pm_E} {y pc t : Nat} {off : Int} (hd : decode (pm_cd y) pc = .ok (.if_icmp .lt off, 3)) (ht : (pc : Int) + off = (t : Int)) : pm_Snd E y pc (pc + 3) (po_iclt t) := by
  intro N J C M Q S hN hJ hC hM h
  obtain ⟨ls, st, x⟩ := S
  obtain ⟨a, b, r, rfl, h⟩ := pk_ii_of h
  intro n0 p e s m args below meth c H locs la QQ F hP hS hl hk1 hk2 hn hend
  exact lv_icmp_lt F.1 F.2.1 hd ht (fun q => hJ _ _ (h.1 q) n0 p e s m args below meth c H locs la QQ F hP hS hl hk1 hk2 hn hend) (fun q => hN _ (h.2 q) n0 p e s m args below meth c H locs la QQ F hP hS hl hk1 hk2 hn hend)
def po_iflt (t : Nat) : pm_Op := fun N J _ _ _ s => match s with
  | (ls, st, x) => pk_i st fun a r => (a < 0 → J t (ls, r, x)) ∧ (¬ a < 0 → N (ls, r, x))
theorem ps_iflt {E : pm_E} {y pc t : Nat} {off : Int} (hd : decode (pm_cd y) pc = .ok (.ifCond .lt off, 3)) (ht : (pc : Int) + off = (t : Int)) : pm_Snd E y pc (pc + 3) (po_iflt t) := by
  intro N J C M Q S hN hJ hC hM h
  obtain ⟨ls, st, x⟩ := S
  obtain ⟨a, r, rfl, h⟩ := pk_i_of h
  intro n0 p e s m args below meth c H locs la QQ F hP hS hl hk1 hk2 hn hend
  exact lv_if_lt F.1 F.2.1 hd ht (fun q => hJ _ _ (h.1 q) n0 p e s m args below meth c H locs la QQ F hP hS hl hk1 hk2 hn hend) (fun q => hN _ (h.2 q) n0 p e s m args below meth c H locs la QQ F hP hS hl hk1 hk2 hn hend)
def po_icge (t : Nat) : pm_Op := fun N J _ _ _ s => match s with
  | (ls, st, x) => pk_ii st fun a b r => (b ≤ a → J t (ls, r, x)) ∧ (¬ b ≤ a → N (ls, r, x))
theorem ps_icge {E : pm_E} {y pc t : Nat} {off : Int} (hd : decode (pm_cd y) pc = .ok (.if_icmp .ge off, 3)) (ht : (pc : Int) + off = (t : Int)) : pm_Snd E y pc (pc + 3) (po_icge t) := by
  intro N J C M Q S hN hJ hC hM h
  obtain ⟨ls, st, x⟩ := S
  obtain ⟨a, b, r, rfl, h⟩ := pk_ii_of h
  intro n0 p e s m args below meth c H locs la QQ F hP hS hl hk1 hk2 hn hend
  exact lv_icmp_ge F.1 F.2.1 hd ht (fun q => hJ _ _ (h.1 q) n0 p e s m args below meth c H locs la QQ F hP hS hl hk1 hk2 hn hend) (fun q => hN _ (h.2 q) n0 p e s m args below meth c H locs la QQ F hP hS hl hk1 hk2 hn hend)
def po_ifge (t : Nat) : pm_Op := fun N J _ _ _ s => match s with
  | (ls, st, x) => pk_i st fun a r => (0 ≤ a → J t (ls, r, x)) ∧ (¬ 0 ≤ a → N (ls, r, x))
theorem ps_ifge {E : pm_E} {y pc t : Nat} {off : Int} (hd : decode (pm_cd y) pc = .ok (.ifCond .ge off, 3)) (ht : (pc : Int) + off = (t : Int)) : pm_Snd E y pc (pc + 3) (po_ifge t) := by
  intro N J C M Q S hN hJ hC hM h
  obtain ⟨ls, st, x⟩ := S
  obtain ⟨a, r, rfl, h⟩ := pk_i_of h
  intro n0 p e s m args below meth c H locs la QQ F hP hS hl hk1 hk2 hn hend
  exact lv_if_ge F.1 F.2.1 hd ht (fun q => hJ _ _ (h.1 q) n0 p e s m args below meth c H locs la QQ F hP hS hl hk1 hk2 hn hend) (fun q => hN _ (h.2 q) n0 p e s m args below meth c H locs la QQ F hP hS hl hk1 hk2 hn hend)
def po_icgt (t : Nat) : pm_Op := fun N J _ _ _ s => match s with
  | (ls, st, x) => pk_ii st fun a b r => (b < a → J t (ls, r, x)) ∧ (¬ b < a → N (ls, r, x))
theorem ps_icgt {E : pm_E} {y pc t : Nat} {off : Int} (hd : decode (pm_cd y) pc = .ok (.if_icmp .gt off, 3)) (ht : (pc : Int) + off = (t : Int)) : pm_Snd E y pc (pc + 3) (po_icgt t) := by
  intro N J C M Q S hN hJ hC hM h
  obtain ⟨ls, st, x⟩ := S
  obtain ⟨a, b, r, rfl, h⟩ := pk_ii_of h
  intro n0 p e s m args below meth c H locs la QQ F hP hS hl hk1 hk2 hn hend
  exact lv_icmp_gt F.1 F.2.1 hd ht (fun q => hJ _ _ (h.1 q) n0 p e s m args below meth c H locs la QQ F hP hS hl hk1 hk2 hn hend) (fun q => hN _ (h.2 q) n0 p e s m args below meth c H locs la QQ F hP hS hl hk1 hk2 hn hend)
def po_ifgt (t : Nat) : pm_Op := fun N J _ _ _ s => match s with
  | (ls, st, x) => pk_i st fun a r => (0 < a → J t (ls, r, x)) ∧ (¬ 0 < a → N (ls, r, x))
theorem ps_ifgt {E : pm_E} {y pc t : Nat} {off : Int} (hd : decode (pm_cd y) pc = .ok (.ifCond .gt off, 3)) (ht : (pc : Int) + off = (t : Int)) : pm_Snd E y pc (pc + 3) (po_ifgt t) := by
  intro N J C M Q S hN hJ hC hM h
  obtain ⟨ls, st, x⟩ := S
  obtain ⟨a, r, rfl, h⟩ := pk_i_of h
  intro n0 p e s m args below meth c H locs la QQ F hP hS hl hk1 hk2 hn hend
  exact lv_if_gt F.1 F.2.1 hd ht (fun q => hJ _ _ (h.1 q) n0 p e s m args below meth c H locs la QQ F hP hS hl hk1 hk2 hn hend) (fun q => hN _ (h.2 q) n0 p e s m args below meth c H locs la QQ F hP hS hl hk1 hk2 hn hend)
def po_icle (t : Nat) : pm_Op := fun N J _ _ _ s => match s with
  | (ls, st, x) => pk_ii st fun a b r => (a ≤ b → J t (ls, r, x)) ∧ (¬ a ≤ b → N (ls, r, x))
theorem ps_icle {E : pm_E} {y pc t : Nat} {off : Int} (hd : decode (pm_cd y) pc = .ok (.if_icmp .le off, 3)) (ht : (pc : Int) + off = (t : Int)) : pm_Snd E y pc (pc + 3) (po_icle t) := by
  intro N J C M Q S hN hJ hC hM h
  obtain ⟨ls, st, x⟩ := S
  obtain ⟨a, b, r, rfl, h⟩ := pk_ii_of h
  intro n0 p e s m args below meth c H locs la QQ F hP hS hl hk1 hk2 hn hend
  exact lv_icmp_le F.1 F.2.1 hd ht (fun q => hJ _ _ (h.1 q) n0 p e s m args below meth c H locs la QQ F hP hS hl hk1 hk2 hn hend) (fun q => hN _ (h.2 q) n0 p e s m args below meth c H locs la QQ F hP hS hl hk1 hk2 hn hend)
def po_ifle (t : Nat) : pm_Op := fun N J _ _ _ s => match s with
  | (ls, st, x) => pk_i st fun a r => (a ≤ 0 → J t (ls, r, x)) ∧ (¬ a ≤ 0 → N (ls, r, x))
theorem ps_ifle {E : pm_E} {y pc t : Nat} {off : Int} (hd : decode (pm_cd y) pc = .ok (.ifCond .le off, 3)) (ht : (pc : Int) + off = (t : Int)) : pm_Snd E y pc (pc + 3) (po_ifle t) := by
  intro N J C M Q S hN hJ hC hM h
  obtain ⟨ls, st, x⟩ := S
  obtain ⟨a, r, rfl, h⟩ := pk_i_of h
  intro n0 p e s m args below meth c H locs la QQ F hP hS hl hk1 hk2 hn hend
  exact lv_if_le F.1 F.2.1 hd ht (fun q => hJ _ _ (h.1 q) n0 p e s m args below meth c H locs la QQ F hP hS hl hk1 hk2 hn hend) (fun q => hN _ (h.2 q) n0 p e s m args below meth c H locs la QQ F hP hS hl hk1 hk2 hn hend)
def po_lceq (t : Nat) : pm_Op := fun N J _ _ _ s => match s with
  | (ls, st, x) => pk_ll st fun a b r => (a = b → J t (ls, r, x)) ∧ (¬ a = b → N (ls, r, x))
theorem ps_lceq {E : pm_E} {y pc t : Nat} {off : Int} (hd0 : decode (pm_cd y) pc = .ok (.lcmp, 1)) (hd : decode (pm_cd y) (pc + 1) = .ok (.ifCond .eq off, 3)) (ht : ((pc + 1 : Nat) : Int) + off = (t : Int)) : pm_Snd E y pc (pc + 4) (po_lceq t) := by
  intro N J C M Q S hN hJ hC hM h
  obtain ⟨ls, st, x⟩ := S
  obtain ⟨a, b, r, rfl, h⟩ := pk_ll_of h
  intro n0 p e s m args below meth c H locs la QQ F hP hS hl hk1 hk2 hn hend
  exact W.lcmp F.1 F.2.1 hd0 (lv_if_eq F.1 F.2.1 hd ht (fun q => hJ _ _ (h.1 ((lg_cmp_eq _ _).mp q)) n0 p e s m args below meth c H locs la QQ F hP hS hl hk1 hk2 hn hend) (fun q => hN _ (h.2 (fun z => q ((lg_cmp_eq _ _).mpr z))) n0 p e s m args below meth c H locs la QQ F hP hS hl hk1 hk2 hn hend))
def po_lcne (t : Nat) : pm_Op := fun N J _ _ _ s => match s with
  | (ls, st, x) => pk_ll st fun a b r => (¬ a = b → J t (ls, r, x)) ∧ (a = b → N (ls, r, x))
theorem ps_lcne {E : pm_E} {y pc t : Nat} {off : Int} (hd0 : decode (pm_cd y) pc = .ok (.lcmp, 1)) (hd : decode (pm_cd y) (pc + 1) = .ok (.ifCond .ne off, 3)) (ht : ((pc + 1 : Nat) : Int) + off = (t : Int)) : pm_Snd E y pc (pc + 4) (po_lcne t) := by
  intro N J C M Q S hN hJ hC hM h
  obtain ⟨ls, st, x⟩ := S
  obtain ⟨a, b, r, rfl, h⟩ := pk_ll_of h
  intro n0 p e s m args below meth c H locs la QQ F hP hS hl hk1 hk2 hn hend
  exact W.lcmp F.1 F.2.1 hd0 (lv_if_ne F.1 F.2.1 hd ht (fun q => hJ _ _ (h.1 (fun z => q ((lg_cmp_eq _ _).mpr z))) n0 p e s m args below meth c H locs la QQ F hP hS hl hk1 hk2 hn hend) (fun q => hN _ (h.2 ((lg_cmp_eq _ _).mp q)) n0 p e s m args below meth c H locs la QQ F hP hS hl hk1 hk2 hn hend))
def po_lclt (t : Nat) : pm_Op := fun N J _ _ _ s => match s with
  | (ls, st, x) => pk_ll st fun a b r => (a < b → J t (ls, r, x)) ∧ (¬ a < b → N (ls, r, x))
theorem ps_lclt {E : pm_E} {y pc t : Nat} {off : Int} (hd0 : decode (pm_cd y) pc = .ok (.lcmp, 1)) (hd : decode (pm_cd y) (pc + 1) = .ok (.ifCond .lt off, 3)) (ht : ((pc + 1 : Nat) : Int) + off = (t : Int)) : pm_Snd E y pc (pc + 4) (po_lclt t) := by
  intro N J C M Q S hN hJ hC hM h
  obtain ⟨ls, st, x⟩ := S
  obtain ⟨a, b, r, rfl, h⟩ := pk_ll_of h
  intro n0 p e s m args below meth c H locs la QQ F hP hS hl hk1 hk2 hn hend
  exact W.lcmp F.1 F.2.1 hd0 (lv_if_lt F.1 F.2.1 hd ht (fun q => hJ _ _ (h.1 ((lg_cmp_lt _ _).mp q)) n0 p e s m args below meth c H locs la QQ F hP hS hl hk1 hk2 hn hend) (fun q => hN _ (h.2 (fun z => q ((lg_cmp_lt _ _).mpr z))) n0 p e s m args below meth c H locs la QQ F hP hS hl hk1 hk2 hn hend))
def po_lcge (t : Nat) : pm_Op := fun N J _ _ _ s => match s with
  | (ls, st, x) => pk_ll st fun a b r => (b ≤ a → J t (ls, r, x)) ∧ (¬ b ≤ a → N (ls, r, x))
theorem ps_lcge {E : pm_E} {y pc t : Nat} {off : Int} (hd0 : decode (pm_cd y) pc = .ok (.lcmp, 1)) (hd : decode (pm_cd y) (pc + 1) = .ok (.ifCond .ge off, 3)) (ht : ((pc + 1 : Nat) : Int) + off = (t : Int)) : pm_Snd E y pc (pc + 4) (po_lcge t) := by
  intro N J C M Q S hN hJ hC hM h
  obtain ⟨ls, st, x⟩ := S
  obtain ⟨a, b, r, rfl, h⟩ := pk_ll_of h
  intro n0 p e s m args below meth c H locs la QQ F hP hS hl hk1 hk2 hn hend
  exact W.lcmp F.1 F.2.1 hd0 (lv_if_ge F.1 F.2.1 hd ht (fun q => hJ _ _ (h.1 ((lg_cmp_ge _ _).mp q)) n0 p e s m args below meth c H locs la QQ F hP hS hl hk1 hk2 hn hend) (fun q => hN _ (h.2 (fun z => q ((lg_cmp_ge _ _).mpr z))) n0 p e s m args below meth c H locs la QQ F hP hS hl hk1 hk2 hn hend))
def po_lcgt (t : Nat) : pm_Op := fun N J _ _ _ s => match s with
  | (ls, st, x) => pk_ll st fun a b r => (b < a → J t (ls, r, x)) ∧ (¬ b < a → N (ls, r, x))
theorem ps_lcgt {E : pm_E} {y pc t : Nat} {off : Int} (hd0 : decode (pm_cd y) pc = .ok (.lcmp, 1)) (hd : decode (pm_cd y) (pc + 1) = .ok (.ifCond .gt off, 3)) (ht : ((pc + 1 : Nat) : Int) + off = (t : Int)) : pm_Snd E y pc (pc + 4) (po_lcgt t) := by
  intro N J C M Q S hN hJ hC hM h
  obtain ⟨ls, st, x⟩ := S
  obtain ⟨a, b, r, rfl, h⟩ := pk_ll_of h
  intro n0 p e s m args below meth c H locs la QQ F hP hS hl hk1 hk2 hn hend
  exact W.lcmp F.1 F.2.1 hd0 (lv_if_gt F.1 F.2.1 hd ht (fun q => hJ _ _ (h.1 ((lg_cmp_gt _ _).mp q)) n0 p e s m args below meth c H locs la QQ F hP hS hl hk1 hk2 hn hend) (fun q => hN _ (h.2 (fun z => q ((lg_cmp_gt _ _).mpr z))) n0 p e s m args below meth c H locs la QQ F hP hS hl hk1 hk2 hn hend))
def po_lcle (t : Nat) : pm_Op := fun N J _ _ _ s => match s with
  | (ls, st, x) => pk_ll st fun a b r => (a ≤ b → J t (ls, r, x)) ∧ (¬ a ≤ b → N (ls, r, x))
theorem ps_lcle {E : pm_E} {y pc t : Nat} {off : Int} (hd0 : decode (pm_cd y) pc = .ok (.lcmp, 1)) (hd : decode (pm_cd y) (pc + 1) = .ok (.ifCond .le off, 3)) (ht : ((pc + 1 : Nat) : Int) + off = (t : Int)) : pm_Snd E y pc (pc + 4) (po_lcle t) := by
  intro N J C M Q S hN hJ hC hM h
  obtain ⟨ls, st, x⟩ := S
  obtain ⟨a, b, r, rfl, h⟩ := pk_ll_of h
  intro n0 p e s m args below meth c H locs la QQ F hP hS hl hk1 hk2 hn hend
  exact W.lcmp F.1 F.2.1 hd0 (lv_if_le F.1 F.2.1 hd ht (fun q => hJ _ _ (h.1 ((lg_cmp_le _ _).mp q)) n0 p e s m args below meth c H locs la QQ F hP hS hl hk1 hk2 hn hend) (fun q => hN _ (h.2 (fun z => q ((lg_cmp_le _ _).mpr z))) n0 p e s m args below meth c H locs la QQ F hP hS hl hk1 hk2 hn hend))
def po_goto (t : Nat) : pm_Op := fun _ J _ _ _ s => J t s
theorem ps_goto {E : pm_E} {y pc nx t : Nat} {off : Int} (hd : decode (pm_cd y) pc = .ok (.goto off, 3)) (ht : (pc : Int) + off = (t : Int)) : pm_Snd E y pc nx (po_goto t) := by
  intro N J C M Q S hN hJ hC hM h
  intro n0 p e s m args below meth c H locs la QQ F hP hS hl hk1 hk2 hn hend
  exact lv_goto F.1 F.2.1 hd ht (hJ _ _ h n0 p e s m args below meth c H locs la QQ F hP hS hl hk1 hk2 hn hend)
def po_mark : pm_Op := fun _ _ _ M _ s => M s
theorem ps_mark {E : pm_E} {y pc nx : Nat} : pm_Snd E y pc nx po_mark := fun N J C M Q S hN hJ hC hM h => hM S h
def po_no : pm_Op := fun _ _ _ _ _ _ => False
theorem ps_no {E : pm_E} {y pc nx : Nat} : pm_Snd E y pc nx po_no := fun N J C M Q S hN hJ hC hM h => h.elim
/-- a tableswitch from 0 on: the targets, the default -/
def po_tsw (ts : List Nat) (d : Nat) : pm_Op := fun _ J _ _ _ s => match s with
  | (ls, st, x) => pk_i st fun a r => (∀ k t, ts[k]? = some t → a = nI k → J t (ls, r, x)) ∧ ((a < 0 ∨ nI ts.length ≤ a) → J d (ls, r, x))
theorem ps_tsw {E : pm_E} {y pc nx d len : Nat} {ts : List Nat} {dflt hi : Int} {offs : Array Int} (hd : decode (pm_cd y) pc = .ok (.tableswitch dflt 0 hi offs, len)) (ht : offs.toList.map (fun o => (pc : Int) + o) = ts.map (fun (t : Nat) => (t : Int))) (hh : hi + 1 = (ts.length : Int)) (hsm : ts.length < 2 ^ 31) (hdt : (pc : Int) + dflt = (d : Int)) : pm_Snd E y pc nx (po_tsw ts d) := by
  intro N J C M Q S hN hJ hC hM h
  obtain ⟨ls, st, x⟩ := S
  obtain ⟨a, r, rfl, h⟩ := pk_i_of h
  intro n0 p e s m args below meth c H locs la QQ F hP hS hl hk1 hk2 hn hend
  by_cases q : a < 0 ∨ nI ts.length ≤ a
  · refine lv_tableOut F.1 F.2.1 hd ?_ hdt (hJ _ _ (h.2 q) n0 p e s m args below meth c H locs la QQ F hP hS hl hk1 hk2 hn hend)
    rcases q with q | q
    · left
      have := Int32.lt_iff_toInt_lt.mp q
      simpa using this
    · right
      have := Int32.le_iff_toInt_le.mp q
      rw [nI_toInt hsm] at this
      omega
  · have q0 : ¬ a < 0 := fun z => q (Or.inl z)
    have q1 : ¬ nI ts.length ≤ a := fun z => q (Or.inr z)
    obtain ⟨j, hj, rfl⟩ := nI_of q0
    have hjl : j < ts.length := by
      rcases Nat.lt_or_ge j ts.length with z | z
      · exact z
      · exact absurd (nI_le z hj) q1
    have hl2 : offs.toList.length = ts.length := by
      have := congrArg List.length ht
      simpa using this
    have ho : offs[j]? = some (offs.toList[j]'(by omega)) := by
      rw [← Array.getElem?_toList, List.getElem?_eq_getElem]
    have hto : (pc : Int) + (offs.toList[j]'(by omega)) = (ts[j] : Int) := by
      have := congrArg (fun l : List Int => l[j]?) ht
      simp only [List.getElem?_map] at this
      rw [List.getElem?_eq_getElem (by omega), List.getElem?_eq_getElem hjl] at this
      simpa using this
    have hti : (nI j).toInt = (j : Int) := nI_toInt hj
    refine lv_tableIn F.1 F.2.1 hd (by rw [hti]; omega) (by rw [hti]; omega) (off := offs.toList[j]'(by omega)) (by rw [hti]; simpa using ho) hto (hJ _ _ (h.1 j _ (List.getElem?_eq_getElem hjl) rfl) n0 p e s m args below meth c H locs la QQ F hP hS hl hk1 hk2 hn hend)

def pk_ri1 (st : List Value) (k : Int32 → Prop) : Prop := match st with
  | [.int a] => k a
  | _ => False
theorem pk_ri1_of {st : List Value} {k : Int32 → Prop} (h : pk_ri1 st k) : ∃ a : Int32, st = [.int a] ∧ k a := by
  unfold pk_ri1 at h
  split at h
  · exact ⟨_, rfl, h⟩
  · exact h.elim
def pk_rl1 (st : List Value) (k : Int64 → Prop) : Prop := match st with
  | [.long a] => k a
  | _ => False
theorem pk_rl1_of {st : List Value} {k : Int64 → Prop} (h : pk_rl1 st k) : ∃ a : Int64, st = [.long a] ∧ k a := by
  unfold pk_rl1 at h
  split at h
  · exact ⟨_, rfl, h⟩
  · exact h.elim
/-- an int's end; 'po_zret': of a smaller type -/
def po_iret : pm_Op := fun _ _ _ _ Q s => match s with
  | (_, st, h, _) => pk_ri1 st fun a => True ∧ Q (some (.int a)) h
def po_zret (ty : FieldType) : pm_Op := fun _ _ _ _ Q s => match s with
  | (_, st, h, _) => pk_ri1 st fun a => narrow ty (.int a) = .int a ∧ Q (some (.int a)) h
def po_lret : pm_Op := fun _ _ _ _ Q s => match s with
  | (_, st, h, _) => pk_rl1 st fun a => True ∧ Q (some (.long a)) h
def po_vret : pm_Op := fun _ _ _ _ Q s => match s with
  | (_, st, h, _) => match st with
    | [] => True ∧ Q none h
    | _ => False
/-- a constructor's end: all that it makes is made -/
def po_vretC (mc ms : Nat) : pm_Op := fun _ _ _ _ Q s => match s with
  | (_, st, h, kc, ks) => match st with
    | [] => (kc = mc ∧ ks = ms) ∧ Q none h
    | _ => False
theorem ps_iret {E : pm_E} {y pc nx : Nat} (hd : decode (pm_cd y) pc = .ok (.ireturn, 1)) (hr : pm_rt y = some .int) (hc0 : (pm_rm y).cells = 0) (hs0 : (pm_rm y).slots = 0) : pm_Snd E y pc nx po_iret := by
  intro N J C M Q S hN hJ hC hM h
  obtain ⟨ls, st, hp, x⟩ := S
  obtain ⟨a, rfl, h⟩ := pk_ri1_of h
  intro n0 p e s m args below meth c H locs la QQ F hP hS hl hk1 hk2 hn hend
  have z1 : x.1 = 0 := Nat.le_zero.mp (by rw [← hc0]; exact hk1)
  have z2 : x.2 = 0 := Nat.le_zero.mp (by rw [← hs0]; exact hk2)
  have hk := hend (some (.int a)) hp H locs la pc h.2 ⟨hd, _, hr, rfl⟩ hP hS (Or.inl (by rw [hn, hc0]; show n0 + x.1 = _; rw [z1]))
  refine W.widen (k := (pm_rm y).cells) (n := (pm_rm y).slots) hk1 hk2 ?_
  exact hk
theorem ps_zret {E : pm_E} {y pc nx : Nat} {ty : FieldType} (hd : decode (pm_cd y) pc = .ok (.ireturn, 1)) (hr : pm_rt y = some ty) (hc0 : (pm_rm y).cells = 0) (hs0 : (pm_rm y).slots = 0) : pm_Snd E y pc nx (po_zret ty) := by
  intro N J C M Q S hN hJ hC hM h
  obtain ⟨ls, st, hp, x⟩ := S
  obtain ⟨a, rfl, h⟩ := pk_ri1_of h
  intro n0 p e s m args below meth c H locs la QQ F hP hS hl hk1 hk2 hn hend
  have z1 : x.1 = 0 := Nat.le_zero.mp (by rw [← hc0]; exact hk1)
  have z2 : x.2 = 0 := Nat.le_zero.mp (by rw [← hs0]; exact hk2)
  have hk := hend (some (.int a)) hp H locs la pc h.2 ⟨hd, _, hr, h.1⟩ hP hS (Or.inl (by rw [hn, hc0]; show n0 + x.1 = _; rw [z1]))
  refine W.widen (k := (pm_rm y).cells) (n := (pm_rm y).slots) hk1 hk2 ?_
  exact hk
theorem ps_lret {E : pm_E} {y pc nx : Nat} (hd : decode (pm_cd y) pc = .ok (.lreturn, 1)) (hr : pm_rt y = some .long) (hc0 : (pm_rm y).cells = 0) (hs0 : (pm_rm y).slots = 0) : pm_Snd E y pc nx po_lret := by
  intro N J C M Q S hN hJ hC hM h
  obtain ⟨ls, st, hp, x⟩ := S
  obtain ⟨a, rfl, h⟩ := pk_rl1_of h
  intro n0 p e s m args below meth c H locs la QQ F hP hS hl hk1 hk2 hn hend
  have z1 : x.1 = 0 := Nat.le_zero.mp (by rw [← hc0]; exact hk1)
  have z2 : x.2 = 0 := Nat.le_zero.mp (by rw [← hs0]; exact hk2)
  have hk := hend (some (.long a)) hp H locs la pc h.2 ⟨hd, hr⟩ hP hS (Or.inl (by rw [hn, hc0]; show n0 + x.1 = _; rw [z1]))
  refine W.widen (k := (pm_rm y).cells) (n := (pm_rm y).slots) hk1 hk2 ?_
  exact hk
theorem ps_vret {E : pm_E} {y pc nx : Nat} (hd : decode (pm_cd y) pc = .ok (.return_, 1)) (hr : pm_rt y = none) (hc0 : (pm_rm y).cells = 0) (hs0 : (pm_rm y).slots = 0) : pm_Snd E y pc nx po_vret := by
  intro N J C M Q S hN hJ hC hM h
  obtain ⟨ls, st, hp, x⟩ := S
  have h1 : st = [] ∧ (True ∧ Q none hp) := by
    cases st with
    | nil => exact ⟨rfl, h⟩
    | cons a r => exact h.elim
  obtain ⟨rfl, h⟩ := h1
  intro n0 p e s m args below meth c H locs la QQ F hP hS hl hk1 hk2 hn hend
  have z1 : x.1 = 0 := Nat.le_zero.mp (by rw [← hc0]; exact hk1)
  have z2 : x.2 = 0 := Nat.le_zero.mp (by rw [← hs0]; exact hk2)
  have hk := hend none hp H locs la pc h.2 ⟨hd, hr⟩ hP hS (Or.inl (by rw [hn, hc0]; show n0 + x.1 = _; rw [z1]))
  refine W.widen (k := (pm_rm y).cells) (n := (pm_rm y).slots) hk1 hk2 ?_
  exact hk
theorem ps_vretC {E : pm_E} {y pc nx mc ms : Nat} (hd : decode (pm_cd y) pc = .ok (.return_, 1)) (hr : pm_rt y = none) (hc0 : (pm_rm y).cells = mc) (hs0 : (pm_rm y).slots = ms) : pm_Snd E y pc nx (po_vretC mc ms) := by
  intro N J C M Q S hN hJ hC hM h
  obtain ⟨ls, st, hp, kc, ks⟩ := S
  have h1 : st = [] ∧ ((kc = mc ∧ ks = ms) ∧ Q none hp) := by
    cases st with
    | nil => exact ⟨rfl, h⟩
    | cons a r => exact h.elim
  obtain ⟨rfl, ⟨e1, e2⟩, h⟩ := h1
  intro n0 p e s m args below meth c H locs la QQ F hP hS hl hk1 hk2 hn hend
  have hk := hend none hp H locs la pc h ⟨hd, hr⟩ hP hS (Or.inl (by rw [hn, hc0, ← e1]))
  refine W.widen (k := (pm_rm y).cells) (n := (pm_rm y).slots) hk1 hk2 ?_
  exact hk
/-- the law's end -/
theorem ps_zretL {E : pm_E} {pc nx : Nat} (hd : decode (pm_cd 0) pc = .ok (.ireturn, 1)) : pm_Snd E 0 pc nx (po_zret .boolean) := by
  intro N J C M Q S hN hJ hC hM h
  obtain ⟨ls, st, hp, x⟩ := S
  obtain ⟨a, rfl, h⟩ := pk_ri1_of h
  intro n0 p e s m args below meth c H locs la QQ F hP hS hl hk1 hk2 hn hend
  refine W.widen (k := (pm_rm 0).cells) (n := (pm_rm 0).slots) hk1 hk2 ?_
  exact hend (some (.int a)) hp H locs la pc h.2 ⟨hd, _, rfl, h.1⟩ hP hS (Or.inr rfl)
