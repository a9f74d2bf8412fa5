/-! ===== cells: fields, arrays, new ones ===== -/
def pg : List va_E → Nat → Option va_E
  | [], _ => none
  | e :: _, 0 => some e
  | _ :: l, n + 1 => pg l n
theorem pg_eq : ∀ (l : List va_E) (n : Nat), pg l n = l[n]?
  | [], n => by simp [pg]
  | e :: l, 0 => by simp [pg]
  | e :: l, n + 1 => by simp [pg, pg_eq l n]
def pf : List Value → Nat → Option Value
  | [], _ => none
  | e :: _, 0 => some e
  | _ :: l, n + 1 => pf l n
theorem pf_eq : ∀ (l : List Value) (n : Nat), pf l n = l[n]?
  | [], n => by simp [pf]
  | e :: l, 0 => by simp [pf]
  | e :: l, n + 1 => by simp [pf, pf_eq l n]
/-- the cell that a reference names: its place, what it holds -/
def pk_at (h : List va_E) (a : Nat) (k : Nat → va_E → Prop) : Prop := match a with
  | i + 4 => match pg h i with
    | some x => k i x
    | none => False
  | _ => False
theorem pk_at_of {h : List va_E} {a : Nat} {k : Nat → va_E → Prop} (q : pk_at h a k) : ∃ (i : Nat) (x : va_E), a = i + 4 ∧ h[i]? = some x ∧ k i x := by
  unfold pk_at at q
  split at q
  · rename_i i
    rw [pg_eq] at q
    split at q
    · rename_i x hx
      exact ⟨i, x, rfl, hx, q⟩
    · exact q.elim
  · exact q.elim
def pk_is (b : Bool) (P : Prop) : Prop := match b with
  | true => P
  | false => False
theorem pk_is_of {b : Bool} {P : Prop} (h : pk_is b P) : b = true ∧ P := by
  cases b
  · exact h.elim
  · exact ⟨rfl, h⟩
/-- an object of the class ci -/
def pk_ob (ci : Nat) (x : va_E) (k : List Value → Prop) : Prop := match x with
  | .inr (c, fs) => pk_is (Nat.beq c ci) (k fs)
  | _ => False
theorem pk_ob_of {ci : Nat} {x : va_E} {k : List Value → Prop} (h : pk_ob ci x k) : ∃ fs : List Value, x = .inr (ci, fs) ∧ k fs := by
  unfold pk_ob at h
  split at h
  · obtain ⟨h1, h2⟩ := pk_is_of h
    rw [Nat.eq_of_beq_eq_true h1]
    exact ⟨_, rfl, h2⟩
  · exact h.elim
def pk_ai (t : Nat) (x : va_E) (k : Nat → (Nat → Int32) → Prop) : Prop := match x with
  | .inl (c, n, .inl f) => pk_is (Nat.beq c t) (k n f)
  | _ => False
theorem pk_ai_of {t : Nat} {x : va_E} {k : Nat → (Nat → Int32) → Prop} (h : pk_ai t x k) : ∃ (n : Nat) (f : Nat → Int32), x = .inl (t, n, .inl f) ∧ k n f := by
  unfold pk_ai at h
  split at h
  · obtain ⟨h1, h2⟩ := pk_is_of h
    rw [Nat.eq_of_beq_eq_true h1]
    exact ⟨_, _, rfl, h2⟩
  · exact h.elim
def pk_al (x : va_E) (k : Nat → (Nat → Int64) → Prop) : Prop := match x with
  | .inl (c, n, .inr (.inl f)) => pk_is (Nat.beq c 2) (k n f)
  | _ => False
theorem pk_al_of {x : va_E} {k : Nat → (Nat → Int64) → Prop} (h : pk_al x k) : ∃ (n : Nat) (f : Nat → Int64), x = .inl (2, n, .inr (.inl f)) ∧ k n f := by
  unfold pk_al at h
  split at h
  · obtain ⟨h1, h2⟩ := pk_is_of h
    rw [Nat.eq_of_beq_eq_true h1]
    exact ⟨_, _, rfl, h2⟩
  · exact h.elim
def pk_aq (x : va_E) (k : Nat → (Nat → Option Nat) → Prop) : Prop := match x with
  | .inl (c, n, .inr (.inr (.inr (.inr f)))) => pk_is (Nat.beq c 3) (k n f)
  | _ => False
theorem pk_aq_of {x : va_E} {k : Nat → (Nat → Option Nat) → Prop} (h : pk_aq x k) : ∃ (n : Nat) (f : Nat → Option Nat), x = .inl (3, n, .inr (.inr (.inr (.inr f)))) ∧ k n f := by
  unfold pk_aq at h
  split at h
  · obtain ⟨h1, h2⟩ := pk_is_of h
    rw [Nat.eq_of_beq_eq_true h1]
    exact ⟨_, _, rfl, h2⟩
  · exact h.elim
theorem pm_w_at {E : pm_E} {h : List va_E} {i : Nat} {x : va_E} (hx : h[i]? = some x) : (pm_w E 0 h)[i]? = some (pm_ad E (i + 4), pm_c E x) := by
  rw [pm_w_get, hx, Nat.zero_add]
  rfl
theorem pm_w_put {E : pm_E} {h : List va_E} {i : Nat} (x : va_E) : (pm_w E 0 h).set i (pm_ad E (i + 4), pm_c E x) = pm_w E 0 (h.set i x) := by
  rw [pm_w_set, Nat.zero_add]
/-- a class of the worlds, with what the tables say of its fields -/
def pm_Cl (ci : Nat) (C : String) (T : u_T) (N : Nat) (ty : Nat → FieldType) : Prop := vwCl[ci]? = some (C, T, N) ∧ (∀ w ∈ u_ws C T N, w ∈ pm_ws) ∧ (∀ k, k < N → parseFieldDescriptor (T k).2.2.1 = some (ty k)) ∧ (∀ a, a < N → ∀ b, b < N → a ≠ b → (T a).2.1 ≠ (T b).2.1)
def po_get (ci k : Nat) : pm_Op := fun N _ _ _ _ s => match s with
  | (ls, st, h, x) => pk_r st fun a r => pk_at h a fun _ o => pk_ob ci o fun fs => match pf fs k with
    | some v => N (ls, v :: r, h, x)
    | none => False
theorem pm_get_of {ci k : Nat} {st : List Value} {h : List va_E} {K : Value → List Value → Prop} (q : pk_r st fun a r => pk_at h a fun _ o => pk_ob ci o fun fs => match pf fs k with
    | some v => K v r
    | none => False) : ∃ (i : Nat) (fs : List Value) (v : Value) (r : List Value), st = .ref (i + 4) :: r ∧ h[i]? = some (.inr (ci, fs)) ∧ fs[k]? = some v ∧ K v r := by
  obtain ⟨a, r, rfl, q1⟩ := pk_r_of q
  obtain ⟨i, o, rfl, ho, q2⟩ := pk_at_of q1
  obtain ⟨fs, rfl, q3⟩ := pk_ob_of q2
  rw [pf_eq] at q3
  split at q3
  · rename_i v hv
    exact ⟨i, fs, v, r, rfl, ho, hv, q3⟩
  · exact q3.elim
theorem ps_get {E : pm_E} {y pc ci k idx N0 : Nat} {Cn : String} {T : u_T} {ty : Nat → FieldType} (hcl : pm_Cl ci Cn T N0 ty) (hk : k < N0) (hw : Cond.fieldLink (pm_nm y).cls idx (T k).1 (T k).2.1 (T k).2.2.1 ∈ pm_ws) (hd : decode (pm_cd y) pc = .ok (.getfield idx, 3)) : pm_Snd E y pc (pc + 3) (po_get ci k) := by
  intro N J C M Q S hN hJ hC hM h
  obtain ⟨ls, st, hp, x⟩ := S
  obtain ⟨i, fs, v, r, rfl, ho, hv, h⟩ := pm_get_of h
  intro n0 p e s m args below meth c H locs la QQ F hP hS hl hk1 hk2 hn hend
  show W p E.1 e (pm_rm y) s m args below meth c H locs _ _ QQ (F0 m pc la (List.map (pm_v E) (.ref (i + 4) :: r)))
  rw [List.map_cons, pm_v_ref4]
  exact va_get (ci := ci) (C := Cn) F.1 F.2.1 F.2.2.2.2.1 hcl.2.1 F.2.2.2.1 F.2.2.2.2.2.2.2.2.2.1 hP i (pm_w_at ho) hcl.1 k hk (F.2.2.2.2.1 _ hw) (fun _ h9 => h9) (v := pm_v E v) (by rw [List.getElem?_map, hv]; rfl) hd (hN _ h n0 p e s m args below meth c H locs la QQ F hP hS hl hk1 hk2 hn hend)
theorem ps_getN {E : pm_E} {y pc ci k idx N0 : Nat} {Cn host : String} {T : u_T} {ty : Nat → FieldType} (hcl : pm_Cl ci Cn T N0 ty) (hk : k < N0) (hw : Cond.fieldLinkNest (pm_nm y).cls idx (T k).1 (T k).2.1 (T k).2.2.1 host ∈ pm_nw) (hd : decode (pm_cd y) pc = .ok (.getfield idx, 3)) : pm_Snd E y pc (pc + 3) (po_get ci k) := by
  intro N J C M Q S hN hJ hC hM h
  obtain ⟨ls, st, hp, x⟩ := S
  obtain ⟨i, fs, v, r, rfl, ho, hv, h⟩ := pm_get_of h
  intro n0 p e s m args below meth c H locs la QQ F hP hS hl hk1 hk2 hn hend
  show W p E.1 e (pm_rm y) s m args below meth c H locs _ _ QQ (F0 m pc la (List.map (pm_v E) (.ref (i + 4) :: r)))
  rw [List.map_cons, pm_v_ref4]
  exact va_getN (ci := ci) (C := Cn) F.1 F.2.1 F.2.2.2.2.1 hcl.2.1 F.2.2.2.1 F.2.2.2.2.2.2.2.2.2.1 hP i (pm_w_at ho) hcl.1 k hk (va_Nw.use rfl (F.2.2.2.2.2.1 _ hw)) (fun _ h9 => h9) (v := pm_v E v) (by rw [List.getElem?_map, hv]; rfl) hd (hN _ h n0 p e s m args below meth c H locs la QQ F hP hS hl hk1 hk2 hn hend)
/-- does a value fit its field as it is -/
def pk_fit (ty : FieldType) (v : Value) (P : Prop) : Prop := match ty, v with
  | .int, .int _ => P
  | .long, .long _ => P
  | .object _, .ref _ => P
  | .array _, .ref _ => P
  | .char, .int z => (narrow .char (.int z) = .int z ∧ fits .char (.int z) = true) ∧ P
  | _, _ => False
theorem pk_fit_of {E : pm_E} {ty : FieldType} {v : Value} {P : Prop} (hv3 : ¬ v = .ref 3) (h : pk_fit ty v P) : (narrow ty (pm_v E v) = pm_v E v ∧ fits ty (pm_v E v) = true) ∧ P := by
  unfold pk_fit at h
  split at h
  · exact ⟨⟨rfl, rfl⟩, h⟩
  · exact ⟨⟨rfl, rfl⟩, h⟩
  · rename_i a
    have : ¬ a = 3 := fun e => hv3 (by rw [e])
    rw [pm_v_ref this]
    exact ⟨⟨rfl, rfl⟩, h⟩
  · rename_i a
    have : ¬ a = 3 := fun e => hv3 (by rw [e])
    rw [pm_v_ref this]
    exact ⟨⟨rfl, rfl⟩, h⟩
  · exact h
  · exact h.elim
def pk_v3 (v : Value) (P : Prop) : Prop := match v with
  | .ref a => pk_n3 a P
  | _ => P
theorem pk_v3_of {v : Value} {P : Prop} (h : pk_v3 v P) : ¬ v = .ref 3 ∧ P := by
  unfold pk_v3 at h
  split at h
  · obtain ⟨h1, h2⟩ := pk_n3_of h
    exact ⟨fun e => h1 (by cases e; rfl), h2⟩
  · rename_i h1
    exact ⟨fun e => h1 3 e, h⟩
def po_put (ci k : Nat) (ty : FieldType) : pm_Op := fun N _ _ _ _ s => match s with
  | (ls, st, h, x) => pk_vr st fun a v r => pk_at h a fun i o => pk_ob ci o fun fs => pk_v3 v (pk_fit ty v (pk_is (Nat.blt k fs.length) (N (ls, r, h.set i (.inr (ci, fs.set k v)), x))))
theorem pm_put_of {E : pm_E} {ci k : Nat} {ty : FieldType} {st : List Value} {h : List va_E} {K : List va_E → List Value → Prop} (q : pk_vr st fun a v r => pk_at h a fun i o => pk_ob ci o fun fs => pk_v3 v (pk_fit ty v (pk_is (Nat.blt k fs.length) (K (h.set i (.inr (ci, fs.set k v))) r)))) : ∃ (i : Nat) (fs : List Value) (v : Value) (r : List Value), st = v :: .ref (i + 4) :: r ∧ h[i]? = some (.inr (ci, fs)) ∧ k < fs.length ∧ (narrow ty (pm_v E v) = pm_v E v ∧ fits ty (pm_v E v) = true) ∧ K (h.set i (.inr (ci, fs.set k v))) r := by
  obtain ⟨a, v, r, rfl, q1⟩ := pk_vr_of q
  obtain ⟨i, o, rfl, ho, q2⟩ := pk_at_of q1
  obtain ⟨fs, rfl, q3⟩ := pk_ob_of q2
  obtain ⟨h3, q4⟩ := pk_v3_of q3
  obtain ⟨hf, q5⟩ := pk_fit_of (E := E) h3 q4
  obtain ⟨hk, q6⟩ := pk_is_of q5
  exact ⟨i, fs, v, r, rfl, ho, Nat.le_of_ble_eq_true hk, hf, q6⟩
theorem pm_set_map (E : pm_E) (ci k : Nat) (fs : List Value) (v : Value) : (.inr (ci, (fs.map (pm_v E)).set k (pm_v E v)) : va_E) = pm_c E (.inr (ci, fs.set k v)) := by
  show _ = (.inr (ci, (fs.set k v).map (pm_v E)) : va_E)
  rw [List.map_set]
theorem ps_put {E : pm_E} {y pc ci k idx N0 : Nat} {Cn : String} {T : u_T} {ty : Nat → FieldType} {t : FieldType} (hcl : pm_Cl ci Cn T N0 ty) (hk : k < N0) (hw : Cond.fieldLink (pm_nm y).cls idx (T k).1 (T k).2.1 (T k).2.2.1 ∈ pm_ws) (ht : ty k = t) (hfin : (T k).2.2.2 = false) (hd : decode (pm_cd y) pc = .ok (.putfield idx, 3)) : pm_Snd E y pc (pc + 3) (po_put ci k t) := by
  intro N J C M Q S hN hJ hC hM h
  obtain ⟨ls, st, hp, x⟩ := S
  obtain ⟨i, fs, v, r, rfl, ho, hkl, hf, h⟩ := pm_put_of (E := E) (K := fun hp r => N (ls, r, hp, x)) h
  intro n0 p e s m args below meth c H locs la QQ F hP hS hl hk1 hk2 hn hend
  show W p E.1 e (pm_rm y) s m args below meth c H locs _ _ QQ (F0 m pc la (List.map (pm_v E) (v :: .ref (i + 4) :: r)))
  rw [List.map_cons, List.map_cons, pm_v_ref4]
  refine va_put (ci := ci) (C := Cn) F.1 F.2.1 F.2.2.2.2.1 hcl.2.1 ty hcl.2.2.1 hcl.2.2.2 F.2.2.2.1 F.2.2.2.2.2.2.2.2.2.1 hP (pm_D F.2.2.2.2.2.2.2.2.2.2.1.1 hp) hS i (pm_w_at ho) hcl.1 k hk (F.2.2.2.2.1 _ hw) (fun _ h9 => h9) hfin (by rw [hcl.2.2.1 k hk, ht]) hf.1 hf.2 (by rw [List.length_map]; exact hkl) hd (fun H1 locs1 hP1 _ hS1 => ?_)
  rw [pm_set_map, pm_w_put] at hP1
  exact hN _ h n0 p e s m args below meth c H1 locs1 la QQ F hP1 hS1 hl hk1 hk2 (by rw [show (ls, r, hp.set i (.inr (ci, fs.set k v)), x).2.2.1 = hp.set i (.inr (ci, fs.set k v)) from rfl, List.length_set]; exact hn) hend
theorem ps_putN {E : pm_E} {y pc ci k idx N0 : Nat} {Cn host : String} {T : u_T} {ty : Nat → FieldType} {t : FieldType} (hcl : pm_Cl ci Cn T N0 ty) (hk : k < N0) (hw : Cond.fieldLinkNest (pm_nm y).cls idx (T k).1 (T k).2.1 (T k).2.2.1 host ∈ pm_nw) (ht : ty k = t) (hfin : (T k).2.2.2 = false) (hd : decode (pm_cd y) pc = .ok (.putfield idx, 3)) : pm_Snd E y pc (pc + 3) (po_put ci k t) := by
  intro N J C M Q S hN hJ hC hM h
  obtain ⟨ls, st, hp, x⟩ := S
  obtain ⟨i, fs, v, r, rfl, ho, hkl, hf, h⟩ := pm_put_of (E := E) (K := fun hp r => N (ls, r, hp, x)) h
  intro n0 p e s m args below meth c H locs la QQ F hP hS hl hk1 hk2 hn hend
  show W p E.1 e (pm_rm y) s m args below meth c H locs _ _ QQ (F0 m pc la (List.map (pm_v E) (v :: .ref (i + 4) :: r)))
  rw [List.map_cons, List.map_cons, pm_v_ref4]
  refine va_putN (ci := ci) (C := Cn) F.1 F.2.1 F.2.2.2.2.1 hcl.2.1 ty hcl.2.2.1 hcl.2.2.2 F.2.2.2.1 F.2.2.2.2.2.2.2.2.2.1 hP (pm_D F.2.2.2.2.2.2.2.2.2.2.1.1 hp) hS i (pm_w_at ho) hcl.1 k hk (va_Nw.use rfl (F.2.2.2.2.2.1 _ hw)) (fun _ h9 => h9) hfin (by rw [hcl.2.2.1 k hk, ht]) hf.1 hf.2 (by rw [List.length_map]; exact hkl) hd (fun H1 locs1 hP1 _ hS1 => ?_)
  rw [pm_set_map, pm_w_put] at hP1
  exact hN _ h n0 p e s m args below meth c H1 locs1 la QQ F hP1 hS1 hl hk1 hk2 (by rw [show (ls, r, hp.set i (.inr (ci, fs.set k v)), x).2.2.1 = hp.set i (.inr (ci, fs.set k v)) from rfl, List.length_set]; exact hn) hend
theorem ps_putF {E : pm_E} {y pc ci k idx N0 : Nat} {Cn : String} {T : u_T} {ty : Nat → FieldType} {t : FieldType} (hcl : pm_Cl ci Cn T N0 ty) (hk : k < N0) (hw : Cond.fieldLink (pm_nm y).cls idx (T k).1 (T k).2.1 (T k).2.2.1 ∈ pm_ws) (ht : ty k = t) (hfin : (T k).2.2.2 = true) (hin : (pm_nm y).name = "<init>") (hdc : (T k).1 = (pm_nm y).cls) (hd : decode (pm_cd y) pc = .ok (.putfield idx, 3)) : pm_Snd E y pc (pc + 3) (po_put ci k t) := by
  intro N J C M Q S hN hJ hC hM h
  obtain ⟨ls, st, hp, x⟩ := S
  obtain ⟨i, fs, v, r, rfl, ho, hkl, hf, h⟩ := pm_put_of (E := E) (K := fun hp r => N (ls, r, hp, x)) h
  intro n0 p e s m args below meth c H locs la QQ F hP hS hl hk1 hk2 hn hend
  show W p E.1 e (pm_rm y) s m args below meth c H locs _ _ QQ (F0 m pc la (List.map (pm_v E) (v :: .ref (i + 4) :: r)))
  rw [List.map_cons, List.map_cons, pm_v_ref4]
  refine va_putF (ci := ci) (C := Cn) F.1 F.2.1 F.2.2.2.2.1 hcl.2.1 ty hcl.2.2.1 hcl.2.2.2 F.2.2.2.1 F.2.2.2.2.2.2.2.2.2.1 hP (pm_D F.2.2.2.2.2.2.2.2.2.2.1.1 hp) hS i (pm_w_at ho) hcl.1 k hk (F.2.2.2.2.1 _ hw) (fun _ h9 => h9) hfin (by rw [F.2.2.2.2.2.2.2.2.1]; exact hin) hdc (by rw [hcl.2.2.1 k hk, ht]) hf.1 hf.2 (by rw [List.length_map]; exact hkl) hd (fun H1 locs1 hP1 _ hS1 => ?_)
  rw [pm_set_map, pm_w_put] at hP1
  exact hN _ h n0 p e s m args below meth c H1 locs1 la QQ F hP1 hS1 hl hk1 hk2 (by rw [show (ls, r, hp.set i (.inr (ci, fs.set k v)), x).2.2.1 = hp.set i (.inr (ci, fs.set k v)) from rfl, List.length_set]; exact hn) hend
