/-! ===== new cells, copies ===== -/
def po_new (ci N0 mc ms : Nat) (fs : List Value) : pm_Op := fun N _ _ _ _ s => match s with
  | (ls, st, h, kc, ks) => pk_is (Nat.ble (kc + 1) mc) (pk_is (Nat.ble (ks + N0) ms) (N (ls, .ref (h.length + 4) :: st, h ++ [.inr (ci, fs)], kc + 1, ks + N0)))
theorem pm_len_app {ls : List (Option Value)} {r st : List Value} {hp : List va_E} {n0 kc ks z : Nat} {e : va_E} (hn : (ls, st, hp, kc, ks).2.2.1.length = n0 + (ls, st, hp, kc, ks).2.2.2.1) : (ls, r, hp ++ [e], kc + 1, z).2.2.1.length = n0 + (ls, r, hp ++ [e], kc + 1, z).2.2.2.1 := by
  show (hp ++ [e]).length = n0 + (kc + 1)
  rw [List.length_append]
  have : hp.length = n0 + kc := hn
  simp
  omega
theorem ps_new {E : pm_E} {y pc ci idx N0 mc ms : Nat} {Cn : String} {T : u_T} {ty : Nat → FieldType} {fs : List Value} (hcl : pm_Cl ci Cn T N0 ty) (hw : Cond.classLink (pm_nm y).cls idx Cn ∈ pm_ws) (hw2 : Cond.instantiable Cn N0 ∈ pm_ws) (hw3 : Cond.initialized Cn ∈ pm_ws) (hfs : ∀ j, j < N0 → defaultValue (ty j) = vp_V fs j) (hfr : ∀ E : pm_E, fs.map (pm_v E) = fs) (hmc : mc ≤ (pm_rm y).cells) (hms : ms ≤ (pm_rm y).slots) (hd : decode (pm_cd y) pc = .ok (.new idx, 3)) : pm_Snd E y pc (pc + 3) (po_new ci N0 mc ms fs) := by
  intro N J C M Q S hN hJ hC hM h
  obtain ⟨ls, st, hp, kc, ks⟩ := S
  obtain ⟨h1, h'⟩ := pk_is_of h
  obtain ⟨h2, h3⟩ := pk_is_of h'
  have b1 : kc + 1 ≤ mc := Nat.le_of_ble_eq_true h1
  have b2 : ks + N0 ≤ ms := Nat.le_of_ble_eq_true h2
  intro n0 p e s m args below meth c H locs la QQ F hP hS hl hk1 hk2 hn hend
  refine pm_sz F hP hS hn (fun hz => ?_)
  have hKn := F.2.2.2.2.2.2.2.2.2.1.1 ci _ hcl.1
  have hE := F.2.2.2.2.2.2.2.2.2.2.1.1
  refine W.newcK F.1 F.2.1 F.2.2.2.1 (F.2.2.2.2.1 _ hw) (F.2.2.2.2.1 _ hw2) (F.2.2.2.2.1 _ hw3) rfl hd (by show kc + 1 ≤ _; omega) (by show ks + N0 ≤ _; omega) hKn.2.1 rfl fun H1 kC hkC e1 z1 o1 => ?_
  have hk : ∀ (k : Nat) (x : Nat × va_E), (pm_w E 0 hp)[k]? = some x → H1[x.1]? = H[x.1]? := fun k x hx => o1 x.1 ((hP k x hx).lt)
  have hz' : H.size = pm_ad E (hp.length + 4) := by rw [hE]; exact hz
  have hP1 : va_P E.2.1 vwCl (pm_w E 0 (hp ++ [.inr (ci, fs)])) H1 := by
    rw [pm_w_app, Nat.zero_add]
    refine (hP.kept hk).app (fun k x hx => ?_)
    have hzz : k < 1 := (List.getElem?_eq_some_iff.mp hx).1
    rw [show k = 0 by omega] at hx
    cases hx
    show va_at E.2.1 vwCl (pm_ad E (hp.length + 4), .inr (ci, fs.map (pm_v E))) H1
    rw [hfr E, ← hz']
    exact ⟨_, hcl.1, (u_born ty F.2.2.2.2.1 hcl.2.1 hKn hkC e1 hcl.2.2.1).to hfs⟩
  have hS1 : va_S (pm_A E) s.heap H1 locs := ⟨Nat.le_trans hS.1 (by omega), fun x g1 g2 => (o1 x (Nat.lt_of_lt_of_le g1 hS.1)).trans (hS.2.1 x g1 g2), hS.2.2⟩
  have hk := hN _ h3 n0 p e s m args below meth c H1 locs la QQ F hP1 hS1 hl (by show kc + 1 ≤ _; omega) (by show ks + N0 ≤ _; omega) (pm_len_app hn) hend
  rw [show (ls, Value.ref (hp.length + 4) :: st, hp ++ [.inr (ci, fs)], kc + 1, ks + N0).2.1 = Value.ref (hp.length + 4) :: st from rfl, List.map_cons, pm_v_ref4, ← hz'] at hk
  exact hk
/-- an array of n numbers: its type's place, what it holds at first -/
def po_newa (t n mc ms : Nat) (a0 : vp_A) : pm_Op := fun N _ _ _ _ s => match s with
  | (ls, st, h, kc, ks) => pk_i st fun a r => pk_is (Nat.ble (kc + 1) mc) (pk_is (Nat.ble (ks + n) ms) ((a = nI n) ∧ N (ls, .ref (h.length + 4) :: r, h ++ [.inl (t, a0)], kc + 1, ks + n)))
theorem ps_newa {E : pm_E} {y pc t n mc ms : Nat} {a0 : vp_A} {atype : ArrayType} {ty : FieldType} (hw : Cond.arrayClass (newarray.typeOf atype) ∈ pm_ws) (hty : newarray.typeOf atype = ty) (ht : (pm_ty E)[t]? = some (pm_tc E t, ty)) (hra : ∀ U : State, va_RA U (pm_tc E t) ty → U.vm.findClass ("[" ++ ty.toString) = some (pm_tc E t)) (ha : ∀ cA : ClassId, vp_cell cA a0 = arrV cA n (fun _ => defaultValue ty)) (hpc : pm_c E (.inl (t, a0)) = .inl (pm_tc E t, a0)) (hn31 : n < 2 ^ 31) (hby : n * componentBytes ty ≤ 536870912) (hmc : mc ≤ (pm_rm y).cells) (hms : ms ≤ (pm_rm y).slots) (hd : decode (pm_cd y) pc = .ok (.newarray atype, 2)) : pm_Snd E y pc (pc + 2) (po_newa t n mc ms a0) := by
  intro N J C M Q S hN hJ hC hM h
  obtain ⟨ls, st, hp, kc, ks⟩ := S
  obtain ⟨a, r, rfl, h0⟩ := pk_i_of h
  obtain ⟨h1, h'⟩ := pk_is_of h0
  obtain ⟨h2, rfl, h3⟩ := pk_is_of h'
  have b1 : kc + 1 ≤ mc := Nat.le_of_ble_eq_true h1
  have b2 : ks + n ≤ ms := Nat.le_of_ble_eq_true h2
  intro n0 p e s m args below meth c H locs la QQ F hP hS hl hk1 hk2 hn hend
  refine pm_sz F hP hS hn (fun hz => ?_)
  have hE := F.2.2.2.2.2.2.2.2.2.2.1.1
  refine va_newaK F.1 F.2.1 (F.2.2.2.2.1 _ hw) rfl hd (n := nI n) (N := n) rfl (nI_pos hn31) (nI_clamp hn31) (by rw [hty]; exact hby) (by show kc + 1 ≤ _; omega) (by show ks + n ≤ _; omega) rfl fun H1 cA e1 z1 o1 hAr hNm => ?_
  have hcA : cA = pm_tc E t := by
    have q := hra s (F.2.2.2.2.2.2.2.2.2.1.2 t _ ht).2
    rw [hty] at hNm
    exact Option.some.inj (hNm.symm.trans q)
  have hk : ∀ (k : Nat) (x : Nat × va_E), (pm_w E 0 hp)[k]? = some x → H1[x.1]? = H[x.1]? := fun k x hx => o1 x.1 ((hP k x hx).lt)
  have hz' : H.size = pm_ad E (hp.length + 4) := by rw [hE]; exact hz
  have hP1 : va_P E.2.1 vwCl (pm_w E 0 (hp ++ [.inl (t, a0)])) H1 := by
    rw [pm_w_app, Nat.zero_add]
    refine (hP.kept hk).app (fun k x hx => ?_)
    have hzz : k < 1 := (List.getElem?_eq_some_iff.mp hx).1
    rw [show k = 0 by omega] at hx
    cases hx
    rw [hpc, ← hz', ← hcA]
    show H1[H.size]? = some (vp_cell cA a0)
    rw [ha, ← hty]
    exact e1
  have hS1 : va_S (pm_A E) s.heap H1 locs := ⟨Nat.le_trans hS.1 (by omega), fun x g1 g2 => (o1 x (Nat.lt_of_lt_of_le g1 hS.1)).trans (hS.2.1 x g1 g2), hS.2.2⟩
  have hk := hN _ h3 n0 p e s m args below meth c H1 locs la QQ F hP1 hS1 hl (by show kc + 1 ≤ _; omega) (by show ks + n ≤ _; omega) (pm_len_app hn) hend
  rw [show (ls, Value.ref (hp.length + 4) :: r, hp ++ [.inl (t, a0)], kc + 1, ks + n).2.1 = Value.ref (hp.length + 4) :: r from rfl, List.map_cons, pm_v_ref4, ← hz'] at hk
  exact hk
def po_newq (n mc ms : Nat) : pm_Op := fun N _ _ _ _ s => match s with
  | (ls, st, h, kc, ks) => pk_i st fun a r => pk_is (Nat.ble (kc + 1) mc) (pk_is (Nat.ble (ks + n) ms) ((a = nI n) ∧ N (ls, .ref (h.length + 4) :: r, h ++ [.inl (3, n, .inr (.inr (.inr (.inr (fun _ => none)))))], kc + 1, ks + n)))
theorem ps_newq {E : pm_E} {y pc n mc ms idx : Nat} (hw : Cond.classLink (pm_nm y).cls idx "DoubtTime$State" ∈ pm_ws) (hn31 : n < 2 ^ 31) (hby : n * 4 ≤ 536870912) (hmc : mc ≤ (pm_rm y).cells) (hms : ms ≤ (pm_rm y).slots) (hd : decode (pm_cd y) pc = .ok (.anewarray idx, 3)) : pm_Snd E y pc (pc + 3) (po_newq n mc ms) := by
  intro N J C M Q S hN hJ hC hM h
  obtain ⟨ls, st, hp, kc, ks⟩ := S
  obtain ⟨a, r, rfl, h0⟩ := pk_i_of h
  obtain ⟨h1, h'⟩ := pk_is_of h0
  obtain ⟨h2, rfl, h3⟩ := pk_is_of h'
  have b1 : kc + 1 ≤ mc := Nat.le_of_ble_eq_true h1
  have b2 : ks + n ≤ ms := Nat.le_of_ble_eq_true h2
  intro n0 p e s m args below meth c H locs la QQ F hP hS hl hk1 hk2 hn hend
  refine pm_sz F hP hS hn (fun hz => ?_)
  have hE := F.2.2.2.2.2.2.2.2.2.2.1.1
  have hG := F.2.2.2.2.2.2.2.2.2.2.1
  have hcl : (nI n).toNatClampNeg = n := nI_clamp hn31
  refine W.anew F.1 F.2.1 F.2.2.2.1 (F.2.2.2.2.1 _ hw) (va_AO.use hG.2.2.2.1) rfl hd (n := nI n) rfl (nI_pos hn31) (by rw [hcl]; exact hby) (by show kc + 1 ≤ _; omega) (by rw [hcl]; show ks + n ≤ _; omega) fun cA kA comp f1 f2 f3 f4 => ?_
  rw [hcl]
  have hcA : cA = pm_tc E 3 := by
    obtain ⟨-, -, -, -, -, q⟩ := (F.2.2.2.2.2.2.2.2.2.1.2 3 _ rfl).2
    exact Option.some.inj (f1.symm.trans q)
  generalize hH1 : H.push ({ cls := cA, slots := Array.replicate n .null, vm := .none } : Cell) = H1
  have z1 : H1.size = H.size + 1 := by rw [← hH1, Array.size_push]
  have e1 : H1[H.size]? = some (arrV cA n (fun _ => .null)) := by rw [← hH1, Array.getElem?_push_size, ← arrV_new]
  have o1 : ∀ q : Nat, q < H.size → H1[q]? = H[q]? := fun q hq => by rw [← hH1, Array.getElem?_push, if_neg (Nat.ne_of_lt hq)]
  have hk : ∀ (k : Nat) (x : Nat × va_E), (pm_w E 0 hp)[k]? = some x → H1[x.1]? = H[x.1]? := fun k x hx => o1 x.1 ((hP k x hx).lt)
  have hz' : H.size = pm_ad E (hp.length + 4) := by rw [hE]; exact hz
  have hP1 : va_P E.2.1 vwCl (pm_w E 0 (hp ++ [.inl (3, n, .inr (.inr (.inr (.inr (fun _ => none)))))])) H1 := by
    rw [pm_w_app, Nat.zero_add]
    refine (hP.kept hk).app (fun k x hx => ?_)
    have hzz : k < 1 := (List.getElem?_eq_some_iff.mp hx).1
    rw [show k = 0 by omega] at hx
    cases hx
    show H1[pm_ad E (hp.length + 4)]? = some (vp_cell (pm_tc E 3) (n, .inr (.inr (.inr (.inr (fun j => none))))))
    rw [vp_cell_q, ← hz', ← hcA]
    exact e1
  have hS1 : va_S (pm_A E) s.heap H1 locs := ⟨Nat.le_trans hS.1 (by omega), fun x g1 g2 => (o1 x (Nat.lt_of_lt_of_le g1 hS.1)).trans (hS.2.1 x g1 g2), hS.2.2⟩
  have hk := hN _ h3 n0 p e s m args below meth c H1 locs la QQ F hP1 hS1 hl (by show kc + 1 ≤ _; omega) (by show ks + n ≤ _; omega) (pm_len_app hn) hend
  rw [show (ls, Value.ref (hp.length + 4) :: r, hp ++ [.inl (3, n, .inr (.inr (.inr (.inr (fun _ => none)))))], kc + 1, ks + n).2.1 = Value.ref (hp.length + 4) :: r from rfl, List.map_cons, pm_v_ref4, ← hz'] at hk
  exact hk
/-! whole arrays copied: from a to b, both of n -/
def pk_cp (st : List Value) (k : Nat → Nat → Int32 → List Value → Prop) : Prop := match st with
  | .int n :: .int dp :: .ref b :: .int sp :: .ref a :: r => (dp = 0 ∧ sp = 0) ∧ k a b n r
  | _ => False
theorem pk_cp_of {st : List Value} {k : Nat → Nat → Int32 → List Value → Prop} (h : pk_cp st k) : ∃ (a b : Nat) (n : Int32) (r : List Value), st = .int n :: .int 0 :: .ref b :: .int 0 :: .ref a :: r ∧ k a b n r := by
  unfold pk_cp at h
  split at h
  · obtain ⟨⟨rfl, rfl⟩, h⟩ := h
    exact ⟨_, _, _, _, rfl, h⟩
  · exact h.elim
def pk_cat : List Value → Nat
  | [] => 0
  | v :: r => v.category + pk_cat r
theorem pk_cat_eq {E : pm_E} (hf : (pm_fm E).category = 1) : ∀ (r : List Value), ((r.map (pm_v E)).map fun v => v.category).sum = pk_cat r
  | [] => rfl
  | v :: r => by
    rw [List.map_cons, List.map_cons, List.sum_cons, pk_cat_eq hf r, pm_v_cat E hf]
    rfl
theorem pm_same_i {D : va_G} {cl : List vw_C} {ws : va_W} {H : Heap} {k a n : Nat} {c : ClassId} {f g : Nat → Int32} (h : va_P D cl (ws.set k (a, .inl (c, n, .inl f))) H) (hfg : ∀ j, j < n → f j = g j) : va_P D cl (ws.set k (a, .inl (c, n, .inl g))) H := by
  have e : vp_cell c (n, .inl f) = vp_cell c (n, .inl g) := by
    rw [vp_cell_i, vp_cell_i]
    unfold arrV
    congr 1
    apply Array.ext
    · simp
    · intro i h1 h2
      simp only [Array.getElem_ofFn]
      rw [hfg i (by simpa using h1)]
  intro i q hq
  by_cases hi : i = k
  · subst hi
    by_cases hl : i < ws.length
    · rw [List.getElem?_set_self hl] at hq
      cases hq
      have := h i (a, .inl (c, n, .inl f)) (List.getElem?_set_self hl)
      show H[a]? = some (vp_cell c (n, .inl g))
      rw [← e]
      exact this
    · rw [List.getElem?_eq_none (by rw [List.length_set]; omega)] at hq
      cases hq
  · exact h i q (by rw [List.getElem?_set_ne (fun e => hi e.symm)] at hq ⊢; exact hq)
theorem pm_same_l {D : va_G} {cl : List vw_C} {ws : va_W} {H : Heap} {k a n : Nat} {c : ClassId} {f g : Nat → Int64} (h : va_P D cl (ws.set k (a, .inl (c, n, .inr (.inl f)))) H) (hfg : ∀ j, j < n → f j = g j) : va_P D cl (ws.set k (a, .inl (c, n, .inr (.inl g)))) H := by
  have e : vp_cell c (n, .inr (.inl f)) = vp_cell c (n, .inr (.inl g)) := by
    rw [vp_cell_l, vp_cell_l]
    unfold arrV
    congr 1
    apply Array.ext
    · simp
    · intro i h1 h2
      simp only [Array.getElem_ofFn]
      rw [hfg i (by simpa using h1)]
  intro i q hq
  by_cases hi : i = k
  · subst hi
    by_cases hl : i < ws.length
    · rw [List.getElem?_set_self hl] at hq
      cases hq
      have := h i (a, .inl (c, n, .inr (.inl f))) (List.getElem?_set_self hl)
      show H[a]? = some (vp_cell c (n, .inr (.inl g)))
      rw [← e]
      exact this
    · rw [List.getElem?_eq_none (by rw [List.length_set]; omega)] at hq
      cases hq
  · exact h i q (by rw [List.getElem?_set_ne (fun e => hi e.symm)] at hq ⊢; exact hq)
def po_cpi : pm_Op := fun N _ _ _ _ s => match s with
  | (ls, st, h, x) => pk_cp st fun a b n r => pk_at h a fun _ o => pk_ai 1 o fun na f => pk_at h b fun kb w => pk_ai 1 w fun nb _ => pk_is (Nat.ble (pk_cat r) 8) ((n = nI na ∧ na = nb ∧ na < 2 ^ 31) ∧ N (ls, r, h.set kb (.inl (1, nb, .inl f)), x))
theorem ps_cpi {E : pm_E} {y pc idx : Nat} (hw : Cond.methodLink (pm_nm y).cls idx arraycopyName ∈ pm_ws) (hw2 : Cond.native arraycopyName ∈ pm_ws) (hw3 : Cond.static arraycopyName ∈ pm_ws) (hw4 : Cond.initialized "java/lang/System" ∈ pm_ws) (hfr : 1 ≤ (pm_rm y).frames) (hlo : 26 ≤ (pm_rm y).locals) (hd : decode (pm_cd y) pc = .ok (.invokestatic idx, 3)) : pm_Snd E y pc (pc + 3) po_cpi := by
  intro N J C M Q S hN hJ hC hM h
  obtain ⟨ls, st, hp, x⟩ := S
  obtain ⟨a, b, n, r, rfl, h0⟩ := pk_cp_of h
  obtain ⟨ka, o, rfl, ho, h1⟩ := pk_at_of h0
  obtain ⟨na, f, rfl, h2⟩ := pk_ai_of h1
  obtain ⟨kb, w, rfl, hwb, h3⟩ := pk_at_of h2
  obtain ⟨nb, g, rfl, h4⟩ := pk_ai_of h3
  obtain ⟨h5, ⟨rfl, rfl, h31⟩, h6⟩ := pk_is_of h4
  intro n0 p e s m args below meth c H locs la QQ F hP hS hl hk1 hk2 hn hend
  have hG := F.2.2.2.2.2.2.2.2.2.2.1
  show W p E.1 e (pm_rm y) s m args below meth c H locs _ _ QQ (F0 m pc la (List.map (pm_v E) (.int (nI na) :: .int 0 :: .ref (kb + 4) :: .int 0 :: .ref (ka + 4) :: r)))
  rw [List.map_cons, List.map_cons, List.map_cons, List.map_cons, List.map_cons, pm_v_ref4, pm_v_ref4]
  have hcl : (nI na).toNatClampNeg = na := nI_clamp h31
  refine va_copyi F.1 F.2.1 (F.2.2.1.trans hl.1.symm) F.2.2.2.1 (F.2.2.2.2.1 _ hw) (F.2.2.2.2.1 _ hw2) (F.2.2.2.2.1 _ hw3) (F.2.2.2.2.1 _ hw4) F.2.2.2.2.2.2.2.2.2.1 hP (pm_D hG.1 hp) hS ka kb 1 1 (pm_w_at ho) (pm_w_at hwb) rfl rfl rfl (sp := 0) (dp := 0) (n := nI na) (by decide) (by decide) (nI_pos h31) (by rw [hcl]; simp) (by rw [hcl]; simp) (fun i hi => rfl) hfr (by rw [pk_cat_eq (pm_fm_cat hG)]; have := Nat.le_of_ble_eq_true h5; show _ + (7 + 11) ≤ _; omega) hd (fun H1 locs1 hP1 _ hS1 => ?_)
  have hP2 : va_P E.2.1 vwCl (pm_w E 0 (hp.set kb (.inl (1, na, .inl f)))) H1 := by
    rw [← pm_w_put]
    refine pm_same_i hP1 (fun j hj => ?_)
    rw [hcl]
    exact (pk_cpy_in (Nat.zero_le _) (by simpa using hj)).trans (by simp)
  exact hN _ h6 n0 p e s m args below meth c H1 locs1 la QQ F hP2 hS1 hl hk1 hk2 (pm_len_set hn) hend
def po_cpl : pm_Op := fun N _ _ _ _ s => match s with
  | (ls, st, h, x) => pk_cp st fun a b n r => pk_at h a fun _ o => pk_al o fun na f => pk_at h b fun kb w => pk_al w fun nb _ => pk_is (Nat.ble (pk_cat r) 8) ((n = nI na ∧ na = nb ∧ na < 2 ^ 31) ∧ N (ls, r, h.set kb (.inl (2, nb, .inr (.inl f))), x))
theorem ps_cpl {E : pm_E} {y pc idx : Nat} (hw : Cond.methodLink (pm_nm y).cls idx arraycopyName ∈ pm_ws) (hw2 : Cond.native arraycopyName ∈ pm_ws) (hw3 : Cond.static arraycopyName ∈ pm_ws) (hw4 : Cond.initialized "java/lang/System" ∈ pm_ws) (hfr : 1 ≤ (pm_rm y).frames) (hlo : 26 ≤ (pm_rm y).locals) (hd : decode (pm_cd y) pc = .ok (.invokestatic idx, 3)) : pm_Snd E y pc (pc + 3) po_cpl := by
  intro N J C M Q S hN hJ hC hM h
  obtain ⟨ls, st, hp, x⟩ := S
  obtain ⟨a, b, n, r, rfl, h0⟩ := pk_cp_of h
  obtain ⟨ka, o, rfl, ho, h1⟩ := pk_at_of h0
  obtain ⟨na, f, rfl, h2⟩ := pk_al_of h1
  obtain ⟨kb, w, rfl, hwb, h3⟩ := pk_at_of h2
  obtain ⟨nb, g, rfl, h4⟩ := pk_al_of h3
  obtain ⟨h5, ⟨rfl, rfl, h31⟩, h6⟩ := pk_is_of h4
  intro n0 p e s m args below meth c H locs la QQ F hP hS hl hk1 hk2 hn hend
  have hG := F.2.2.2.2.2.2.2.2.2.2.1
  show W p E.1 e (pm_rm y) s m args below meth c H locs _ _ QQ (F0 m pc la (List.map (pm_v E) (.int (nI na) :: .int 0 :: .ref (kb + 4) :: .int 0 :: .ref (ka + 4) :: r)))
  rw [List.map_cons, List.map_cons, List.map_cons, List.map_cons, List.map_cons, pm_v_ref4, pm_v_ref4]
  have hcl : (nI na).toNatClampNeg = na := nI_clamp h31
  refine va_copyl F.1 F.2.1 (F.2.2.1.trans hl.1.symm) F.2.2.2.1 (F.2.2.2.2.1 _ hw) (F.2.2.2.2.1 _ hw2) (F.2.2.2.2.1 _ hw3) (F.2.2.2.2.1 _ hw4) F.2.2.2.2.2.2.2.2.2.1 hP (pm_D hG.1 hp) hS ka kb 2 2 (pm_w_at ho) (pm_w_at hwb) rfl rfl rfl (sp := 0) (dp := 0) (n := nI na) (by decide) (by decide) (nI_pos h31) (by rw [hcl]; simp) (by rw [hcl]; simp) (fun i hi => rfl) hfr (by rw [pk_cat_eq (pm_fm_cat hG)]; have := Nat.le_of_ble_eq_true h5; show _ + (7 + 11) ≤ _; omega) hd (fun H1 locs1 hP1 _ hS1 => ?_)
  have hP2 : va_P E.2.1 vwCl (pm_w E 0 (hp.set kb (.inl (2, na, .inr (.inl f))))) H1 := by
    rw [← pm_w_put]
    refine pm_same_l hP1 (fun j hj => ?_)
    rw [hcl]
    exact (pk_cpy_in (Nat.zero_le _) (by simpa using hj)).trans (by simp)
  exact hN _ h6 n0 p e s m args below meth c H1 locs1 la QQ F hP2 hS1 hl hk1 hk2 (pm_len_set hn) hend
