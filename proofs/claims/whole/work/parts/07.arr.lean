/-! ===== arrays ===== -/
def po_iald : pm_Op := fun N _ _ _ _ s => match s with
  | (ls, st, h, x) => pk_ri st fun a i r => pk_at h a fun _ o => pk_ai 1 o fun n f => vp_in i n ∧ N (ls, .int (f i.toNatClampNeg) :: r, h, x)
theorem ps_iald {E : pm_E} {y pc : Nat} (hd : decode (pm_cd y) pc = .ok (.iaload, 1)) : pm_Snd E y pc (pc + 1) po_iald := by
  intro N J C M Q S hN hJ hC hM h
  obtain ⟨ls, st, hp, x⟩ := S
  obtain ⟨a, i, r, rfl, h1⟩ := pk_ri_of h
  obtain ⟨k, o, rfl, ho, h2⟩ := pk_at_of h1
  obtain ⟨n, f, rfl, h3, h4⟩ := pk_ai_of h2
  intro n0 p e s m args below meth c H locs la QQ F hP hS hl hk1 hk2 hn hend
  show W p E.1 e (pm_rm y) s m args below meth c H locs _ _ QQ (F0 m pc la (List.map (pm_v E) (.int i :: .ref (k + 4) :: r)))
  rw [List.map_cons, List.map_cons, pm_v_ref4]
  exact va_iald F.1 F.2.1 F.2.2.2.2.2.2.2.2.2.1 hP k 1 (pm_w_at ho) rfl h3 hd (hN _ h4 n0 p e s m args below meth c H locs la QQ F hP hS hl hk1 hk2 hn hend)
def po_cald : pm_Op := fun N _ _ _ _ s => match s with
  | (ls, st, h, x) => pk_ri st fun a i r => pk_at h a fun _ o => pk_ai 0 o fun n f => vp_in i n ∧ N (ls, .int (f i.toNatClampNeg) :: r, h, x)
theorem ps_cald {E : pm_E} {y pc : Nat} (hd : decode (pm_cd y) pc = .ok (.caload, 1)) : pm_Snd E y pc (pc + 1) po_cald := by
  intro N J C M Q S hN hJ hC hM h
  obtain ⟨ls, st, hp, x⟩ := S
  obtain ⟨a, i, r, rfl, h1⟩ := pk_ri_of h
  obtain ⟨k, o, rfl, ho, h2⟩ := pk_at_of h1
  obtain ⟨n, f, rfl, h3, h4⟩ := pk_ai_of h2
  intro n0 p e s m args below meth c H locs la QQ F hP hS hl hk1 hk2 hn hend
  show W p E.1 e (pm_rm y) s m args below meth c H locs _ _ QQ (F0 m pc la (List.map (pm_v E) (.int i :: .ref (k + 4) :: r)))
  rw [List.map_cons, List.map_cons, pm_v_ref4]
  exact va_cald F.1 F.2.1 F.2.2.2.2.2.2.2.2.2.1 hP k 0 (pm_w_at ho) rfl h3 hd (hN _ h4 n0 p e s m args below meth c H locs la QQ F hP hS hl hk1 hk2 hn hend)
def po_lald : pm_Op := fun N _ _ _ _ s => match s with
  | (ls, st, h, x) => pk_ri st fun a i r => pk_at h a fun _ o => pk_al o fun n f => vp_in i n ∧ N (ls, .long (f i.toNatClampNeg) :: r, h, x)
theorem ps_lald {E : pm_E} {y pc : Nat} (hd : decode (pm_cd y) pc = .ok (.laload, 1)) : pm_Snd E y pc (pc + 1) po_lald := by
  intro N J C M Q S hN hJ hC hM h
  obtain ⟨ls, st, hp, x⟩ := S
  obtain ⟨a, i, r, rfl, h1⟩ := pk_ri_of h
  obtain ⟨k, o, rfl, ho, h2⟩ := pk_at_of h1
  obtain ⟨n, f, rfl, h3, h4⟩ := pk_al_of h2
  intro n0 p e s m args below meth c H locs la QQ F hP hS hl hk1 hk2 hn hend
  show W p E.1 e (pm_rm y) s m args below meth c H locs _ _ QQ (F0 m pc la (List.map (pm_v E) (.int i :: .ref (k + 4) :: r)))
  rw [List.map_cons, List.map_cons, pm_v_ref4]
  exact va_lald F.1 F.2.1 F.2.2.2.2.2.2.2.2.2.1 hP k 2 (pm_w_at ho) rfl h3 hd (hN _ h4 n0 p e s m args below meth c H locs la QQ F hP hS hl hk1 hk2 hn hend)
/-- an element of the array of states: a reference is there -/
def po_aald : pm_Op := fun N _ _ _ _ s => match s with
  | (ls, st, h, x) => pk_ri st fun a i r => pk_at h a fun _ o => pk_aq o fun n f => vp_in i n ∧ ∃ b : Nat, (f i.toNatClampNeg = some (b + 4)) ∧ N (ls, .ref (b + 4) :: r, h, x)
theorem ps_aald {E : pm_E} {y pc : Nat} (hd : decode (pm_cd y) pc = .ok (.aaload, 1)) : pm_Snd E y pc (pc + 1) po_aald := by
  intro N J C M Q S hN hJ hC hM h
  obtain ⟨ls, st, hp, x⟩ := S
  obtain ⟨a, i, r, rfl, h1⟩ := pk_ri_of h
  obtain ⟨k, o, rfl, ho, h2⟩ := pk_at_of h1
  obtain ⟨n, f, rfl, h3, b, hb, h4⟩ := pk_aq_of h2
  intro n0 p e s m args below meth c H locs la QQ F hP hS hl hk1 hk2 hn hend
  show W p E.1 e (pm_rm y) s m args below meth c H locs _ _ QQ (F0 m pc la (List.map (pm_v E) (.int i :: .ref (k + 4) :: r)))
  rw [List.map_cons, List.map_cons, pm_v_ref4]
  refine va_aldq F.1 F.2.1 F.2.2.2.2.2.2.2.2.2.1 hP k 3 (pm_w_at ho) rfl h3 hd ?_
  have hk := hN _ h4 n0 p e s m args below meth c H locs la QQ F hP hS hl hk1 hk2 hn hend
  rw [show (ls, Value.ref (b + 4) :: r, hp, x).2.1 = Value.ref (b + 4) :: r from rfl, List.map_cons, pm_v_ref4] at hk
  show W p E.1 e (pm_rm y) s m args below meth c H locs _ _ QQ (F0 m (pc + 1) la (va_rf ((f i.toNatClampNeg).map (pm_ad E)) :: _))
  rw [hb]
  exact hk
theorem pm_len_set {ls : List (Option Value)} {r : List Value} {hp : List va_E} {k n0 : Nat} {e : va_E} {x : Nat × Nat} {st : List Value} (hn : (ls, st, hp, x).2.2.1.length = n0 + (ls, st, hp, x).2.2.2.1) : (ls, r, hp.set k e, x).2.2.1.length = n0 + (ls, r, hp.set k e, x).2.2.2.1 := by
  show (hp.set k e).length = n0 + x.1
  rw [List.length_set]
  exact hn
def po_iast : pm_Op := fun N _ _ _ _ s => match s with
  | (ls, st, h, x) => pk_rii st fun a i v r => pk_at h a fun k o => pk_ai 1 o fun n f => vp_in i n ∧ N (ls, r, h.set k (.inl (1, n, .inl (upd f i.toNatClampNeg v))), x)
theorem ps_iast {E : pm_E} {y pc : Nat} (hd : decode (pm_cd y) pc = .ok (.iastore, 1)) : pm_Snd E y pc (pc + 1) po_iast := by
  intro N J C M Q S hN hJ hC hM h
  obtain ⟨ls, st, hp, x⟩ := S
  obtain ⟨a, i, v, r, rfl, h1⟩ := pk_rii_of h
  obtain ⟨k, o, rfl, ho, h2⟩ := pk_at_of h1
  obtain ⟨n, f, rfl, h3, h4⟩ := pk_ai_of h2
  intro n0 p e s m args below meth c H locs la QQ F hP hS hl hk1 hk2 hn hend
  show W p E.1 e (pm_rm y) s m args below meth c H locs _ _ QQ (F0 m pc la (List.map (pm_v E) (.int v :: .int i :: .ref (k + 4) :: r)))
  rw [List.map_cons, List.map_cons, List.map_cons, pm_v_ref4]
  refine va_iast F.1 F.2.1 F.2.2.2.2.2.2.2.2.2.1 hP (pm_D F.2.2.2.2.2.2.2.2.2.2.1.1 hp) hS k 1 (pm_w_at ho) rfl h3 hd (fun H1 locs1 hP1 _ hS1 => ?_)
  have hP2 : va_P E.2.1 vwCl (pm_w E 0 (hp.set k (.inl (1, n, .inl (upd f i.toNatClampNeg v))))) H1 := by rw [← pm_w_put]; exact hP1
  exact hN _ h4 n0 p e s m args below meth c H1 locs1 la QQ F hP2 hS1 hl hk1 hk2 (pm_len_set hn) hend
def po_cast : pm_Op := fun N _ _ _ _ s => match s with
  | (ls, st, h, x) => pk_rii st fun a i v r => pk_at h a fun k o => pk_ai 0 o fun n f => vp_in i n ∧ N (ls, r, h.set k (.inl (0, n, .inl (upd f i.toNatClampNeg (vp_nar .char v)))), x)
theorem ps_cast {E : pm_E} {y pc : Nat} (hd : decode (pm_cd y) pc = .ok (.castore, 1)) : pm_Snd E y pc (pc + 1) po_cast := by
  intro N J C M Q S hN hJ hC hM h
  obtain ⟨ls, st, hp, x⟩ := S
  obtain ⟨a, i, v, r, rfl, h1⟩ := pk_rii_of h
  obtain ⟨k, o, rfl, ho, h2⟩ := pk_at_of h1
  obtain ⟨n, f, rfl, h3, h4⟩ := pk_ai_of h2
  intro n0 p e s m args below meth c H locs la QQ F hP hS hl hk1 hk2 hn hend
  show W p E.1 e (pm_rm y) s m args below meth c H locs _ _ QQ (F0 m pc la (List.map (pm_v E) (.int v :: .int i :: .ref (k + 4) :: r)))
  rw [List.map_cons, List.map_cons, List.map_cons, pm_v_ref4]
  refine va_cast F.1 F.2.1 F.2.2.2.2.2.2.2.2.2.1 hP (pm_D F.2.2.2.2.2.2.2.2.2.2.1.1 hp) hS k 0 (pm_w_at ho) rfl h3 hd (fun H1 locs1 hP1 _ hS1 => ?_)
  have hP2 : va_P E.2.1 vwCl (pm_w E 0 (hp.set k (.inl (0, n, .inl (upd f i.toNatClampNeg (vp_nar .char v)))))) H1 := by rw [← pm_w_put]; exact hP1
  exact hN _ h4 n0 p e s m args below meth c H1 locs1 la QQ F hP2 hS1 hl hk1 hk2 (pm_len_set hn) hend
def po_last : pm_Op := fun N _ _ _ _ s => match s with
  | (ls, st, h, x) => pk_ril st fun a i v r => pk_at h a fun k o => pk_al o fun n f => vp_in i n ∧ N (ls, r, h.set k (.inl (2, n, .inr (.inl (vp_updL f i.toNatClampNeg v)))), x)
theorem ps_last {E : pm_E} {y pc : Nat} (hd : decode (pm_cd y) pc = .ok (.lastore, 1)) : pm_Snd E y pc (pc + 1) po_last := by
  intro N J C M Q S hN hJ hC hM h
  obtain ⟨ls, st, hp, x⟩ := S
  obtain ⟨a, i, v, r, rfl, h1⟩ := pk_ril_of h
  obtain ⟨k, o, rfl, ho, h2⟩ := pk_at_of h1
  obtain ⟨n, f, rfl, h3, h4⟩ := pk_al_of h2
  intro n0 p e s m args below meth c H locs la QQ F hP hS hl hk1 hk2 hn hend
  show W p E.1 e (pm_rm y) s m args below meth c H locs _ _ QQ (F0 m pc la (List.map (pm_v E) (.long v :: .int i :: .ref (k + 4) :: r)))
  rw [List.map_cons, List.map_cons, List.map_cons, pm_v_ref4]
  refine va_last F.1 F.2.1 F.2.2.2.2.2.2.2.2.2.1 hP (pm_D F.2.2.2.2.2.2.2.2.2.2.1.1 hp) hS k 2 (pm_w_at ho) rfl h3 hd (fun H1 locs1 hP1 _ hS1 => ?_)
  have hP2 : va_P E.2.1 vwCl (pm_w E 0 (hp.set k (.inl (2, n, .inr (.inl (vp_updL f i.toNatClampNeg v)))))) H1 := by rw [← pm_w_put]; exact hP1
  exact hN _ h4 n0 p e s m args below meth c H1 locs1 la QQ F hP2 hS1 hl hk1 hk2 (pm_len_set hn) hend
/-- a state (class 6) into the array of states -/
def po_aast : pm_Op := fun N _ _ _ _ s => match s with
  | (ls, st, h, x) => pk_rir st fun a i b r => pk_at h a fun k o => pk_aq o fun n f => pk_at h b fun _ w => pk_ob 6 w fun _ => vp_in i n ∧ N (ls, r, h.set k (.inl (3, n, .inr (.inr (.inr (.inr (va_up f i.toNatClampNeg (some b))))))), x)
theorem ps_aast {E : pm_E} {y pc : Nat} (hd : decode (pm_cd y) pc = .ok (.aastore, 1)) : pm_Snd E y pc (pc + 1) po_aast := by
  intro N J C M Q S hN hJ hC hM h
  obtain ⟨ls, st, hp, x⟩ := S
  obtain ⟨a, i, b, r, rfl, h1⟩ := pk_rir_of h
  obtain ⟨k, o, rfl, ho, h2⟩ := pk_at_of h1
  obtain ⟨n, f, rfl, h3⟩ := pk_aq_of h2
  obtain ⟨kb, w, rfl, hw, h4⟩ := pk_at_of h3
  obtain ⟨fs, rfl, h5, h6⟩ := pk_ob_of h4
  intro n0 p e s m args below meth c H locs la QQ F hP hS hl hk1 hk2 hn hend
  show W p E.1 e (pm_rm y) s m args below meth c H locs _ _ QQ (F0 m pc la (List.map (pm_v E) (.ref (kb + 4) :: .int i :: .ref (k + 4) :: r)))
  rw [List.map_cons, List.map_cons, List.map_cons, pm_v_ref4, pm_v_ref4]
  refine va_astq (r := (RX6, TX6, 3)) F.1 F.2.1 F.2.2.2.2.2.2.2.2.2.1 hP (pm_D F.2.2.2.2.2.2.2.2.2.2.1.1 hp) hS k 3 kb 6 (pm_w_at ho) rfl (pm_w_at hw) rfl h5 hd (fun H1 locs1 hP1 _ hS1 => ?_)
  have hP2 : va_P E.2.1 vwCl (pm_w E 0 (hp.set k (.inl (3, n, .inr (.inr (.inr (.inr (va_up f i.toNatClampNeg (some (kb + 4)))))))))) H1 := by
    rw [← pm_w_put]
    have e1 : pm_c E (.inl (3, n, .inr (.inr (.inr (.inr (va_up f i.toNatClampNeg (some (kb + 4)))))))) = .inl (pm_tc E 3, n, .inr (.inr (.inr (.inr (va_up (fun j => (f j).map (pm_ad E)) i.toNatClampNeg (some (pm_ad E (kb + 4)))))))) := by
      show (.inl (pm_tc E 3, n, .inr (.inr (.inr (.inr (fun j => (va_up f i.toNatClampNeg (some (kb + 4)) j).map (pm_ad E)))))) : va_E) = _
      congr 7
      funext j
      unfold va_up
      split <;> rfl
    rw [e1]
    exact hP1
  exact hN _ h6 n0 p e s m args below meth c H1 locs1 la QQ F hP2 hS1 hl hk1 hk2 (pm_len_set hn) hend
/-! the script, the String, statics -/
def po_sld (L : Nat) (xs : Nat → Int32) : pm_Op := fun N _ _ _ _ s => match s with
  | (ls, st, x) => match st with
    | .int i :: .ref 0 :: r => vp_in i L ∧ N (ls, .int (xs i.toNatClampNeg) :: r, x)
    | _ => False
theorem ps_sld {E : pm_E} {y pc : Nat} (hd : decode (pm_cd y) pc = .ok (.iaload, 1)) : pm_Snd E y pc (pc + 1) (po_sld (pm_L E) (pm_xs E)) := by
  intro N J C M Q S hN hJ hC hM h
  obtain ⟨ls, st, x⟩ := S
  match st, h with
  | .int i :: .ref 0 :: r, h =>
    intro n0 p e s m args below meth c H locs la QQ F hP hS hl hk1 hk2 hn hend
    have hG := F.2.2.2.2.2.2.2.2.2.2.1
    exact va_sld F.1 F.2.1 hG.2.2.1.1 (Nat.lt_of_lt_of_le hG.2.2.1.2.1 hG.2.2.1.2.2) (Nat.not_le.mpr hG.2.2.1.2.1) hS h.1 hd (hN _ h.2 n0 p e s m args below meth c H locs la QQ F hP hS hl hk1 hk2 hn hend)
def po_slen (L : Nat) : pm_Op := fun N _ _ _ _ s => match s with
  | (ls, st, x) => match st with
    | .ref 0 :: r => N (ls, .int (nI L) :: r, x)
    | _ => False
theorem ps_slen {E : pm_E} {y pc : Nat} (hd : decode (pm_cd y) pc = .ok (.arraylength, 1)) : pm_Snd E y pc (pc + 1) (po_slen (pm_L E)) := by
  intro N J C M Q S hN hJ hC hM h
  obtain ⟨ls, st, x⟩ := S
  match st, h with
  | .ref 0 :: r, h =>
    intro n0 p e s m args below meth c H locs la QQ F hP hS hl hk1 hk2 hn hend
    have hG := F.2.2.2.2.2.2.2.2.2.2.1
    exact va_slen F.1 F.2.1 hG.2.2.1.1 (Nat.lt_of_lt_of_le hG.2.2.1.2.1 hG.2.2.1.2.2) (Nat.not_le.mpr hG.2.2.1.2.1) hS hd (hN _ h n0 p e s m args below meth c H locs la QQ F hP hS hl hk1 hk2 hn hend)
def po_str : pm_Op := fun N _ _ _ _ s => match s with
  | (ls, st, x) => N (ls, .ref 1 :: st, x)
theorem ps_str {E : pm_E} {y pc : Nat} (hy : (pm_nm y).cls = "DoubtTime") (hd : decode (pm_cd y) pc = .ok (.ldc 51, 2)) : pm_Snd E y pc (pc + 2) po_str := by
  intro N J C M Q S hN hJ hC hM h
  obtain ⟨ls, st, x⟩ := S
  intro n0 p e s m args below meth c H locs la QQ F hP hS hl hk1 hk2 hn hend
  have hG := F.2.2.2.2.2.2.2.2.2.2.1
  have ho := F.2.2.2.1
  rw [hy] at ho
  exact va_ldcS F.1 F.2.1 ho hG.2.2.2.2.1 hd (hN _ h n0 p e s m args below meth c H locs la QQ F hP hS hl hk1 hk2 hn hend)
/-- the String's fields: its bytes, its coder -/
def po_sval : pm_Op := fun N _ _ _ _ s => match s with
  | (ls, st, x) => match st with
    | .ref 1 :: r => N (ls, .ref 2 :: r, x)
    | _ => False
theorem ps_sval {E : pm_E} {y pc idx : Nat} (hw : Cond.fieldLink (pm_nm y).cls idx "java/lang/String" "value" "[B" ∈ pm_ws) (hd : decode (pm_cd y) pc = .ok (.getfield idx, 3)) : pm_Snd E y pc (pc + 3) po_sval := by
  intro N J C M Q S hN hJ hC hM h
  obtain ⟨ls, st, x⟩ := S
  match st, h with
  | .ref 1 :: r, h =>
    intro n0 p e s m args below meth c H locs la QQ F hP hS hl hk1 hk2 hn hend
    have hG := F.2.2.2.2.2.2.2.2.2.2.1
    exact vk_getf F.1 F.2.1 (hG.2.2.2.2.2.1.1 0 (by decide)).2.2.1 hS F.2.2.2.1 (F.2.2.2.2.1 _ hw) (fun _ h9 => h9) hd (hN _ h n0 p e s m args below meth c H locs la QQ F hP hS hl hk1 hk2 hn hend)
def po_scod : pm_Op := fun N _ _ _ _ s => match s with
  | (ls, st, x) => match st with
    | .ref 1 :: r => N (ls, .int 0 :: r, x)
    | _ => False
theorem ps_scod {E : pm_E} {y pc idx : Nat} (hw : Cond.fieldLink (pm_nm y).cls idx "java/lang/String" "coder" "B" ∈ pm_ws) (hd : decode (pm_cd y) pc = .ok (.getfield idx, 3)) : pm_Snd E y pc (pc + 3) po_scod := by
  intro N J C M Q S hN hJ hC hM h
  obtain ⟨ls, st, x⟩ := S
  match st, h with
  | .ref 1 :: r, h =>
    intro n0 p e s m args below meth c H locs la QQ F hP hS hl hk1 hk2 hn hend
    have hG := F.2.2.2.2.2.2.2.2.2.2.1
    exact vk_getf F.1 F.2.1 (hG.2.2.2.2.2.1.1 0 (by decide)).2.1 hS F.2.2.2.1 (F.2.2.2.2.1 _ hw) (fun _ h9 => h9) hd (hN _ h n0 p e s m args below meth c H locs la QQ F hP hS hl hk1 hk2 hn hend)
def po_sblen : pm_Op := fun N _ _ _ _ s => match s with
  | (ls, st, x) => match st with
    | .ref 2 :: r => N (ls, .int 70 :: r, x)
    | _ => False
theorem ps_sblen {E : pm_E} {y pc : Nat} (hd : decode (pm_cd y) pc = .ok (.arraylength, 1)) : pm_Snd E y pc (pc + 1) po_sblen := by
  intro N J C M Q S hN hJ hC hM h
  obtain ⟨ls, st, x⟩ := S
  match st, h with
  | .ref 2 :: r, h =>
    intro n0 p e s m args below meth c H locs la QQ F hP hS hl hk1 hk2 hn hend
    have hG := F.2.2.2.2.2.2.2.2.2.2.1
    exact va_tlen F.1 F.2.1 (hG.2.2.2.2.2.1.1 0 (by decide)).2.2.2 hS (v := 70) (by decide) hd (hN _ h n0 p e s m args below meth c H locs la QQ F hP hS hl hk1 hk2 hn hend)
def po_sbld : pm_Op := fun N _ _ _ _ s => match s with
  | (ls, st, x) => match st with
    | .int i :: .ref 2 :: r => vp_in i 70 ∧ N (ls, .int (pm_bytes.getD i.toNatClampNeg 0) :: r, x)
    | _ => False
theorem ps_sbld {E : pm_E} {y pc : Nat} (hd : decode (pm_cd y) pc = .ok (.baload, 1)) : pm_Snd E y pc (pc + 1) po_sbld := by
  intro N J C M Q S hN hJ hC hM h
  obtain ⟨ls, st, x⟩ := S
  match st, h with
  | .int i :: .ref 2 :: r, h =>
    intro n0 p e s m args below meth c H locs la QQ F hP hS hl hk1 hk2 hn hend
    have hG := F.2.2.2.2.2.2.2.2.2.2.1
    exact va_tb F.1 F.2.1 (hG.2.2.2.2.2.1.1 0 (by decide)).2.2.2 hS h.1 rfl hd (hN _ h.2 n0 p e s m args below meth c H locs la QQ F hP hS hl hk1 hk2 hn hend)
theorem ps_cmps {E : pm_E} {y pc idx : Nat} (hw : Cond.fieldLink (pm_nm y).cls idx "java/lang/String" "COMPACT_STRINGS" "Z" ∈ pm_ws) (hd : decode (pm_cd y) pc = .ok (.getstatic idx, 3)) : pm_Snd E y pc (pc + 3) (po_ic 1) := by
  intro N J C M Q S hN hJ hC hM h
  obtain ⟨ls, st, x⟩ := S
  intro n0 p e s m args below meth c H locs la QQ F hP hS hl hk1 hk2 hn hend
  have hG := F.2.2.2.2.2.2.2.2.2.2.1
  exact va_gets F.1 F.2.1 hG.2.2.2.2.2.2.1 hS F.2.2.2.1 (F.2.2.2.2.1 _ hw) (fun _ h9 => h9) hd (hN _ h n0 p e s m args below meth c H locs la QQ F hP hS hl hk1 hk2 hn hend)
def po_fmt : pm_Op := fun N _ _ _ _ s => match s with
  | (ls, st, x) => N (ls, .ref 3 :: st, x)
theorem ps_fmt {E : pm_E} {y pc idx : Nat} (hw : Cond.fieldLink (pm_nm y).cls idx "jdk/internal/util/Preconditions" "SIOOBE_FORMATTER" "Ljava/util/function/BiFunction;" ∈ pm_ws) (hd : decode (pm_cd y) pc = .ok (.getstatic idx, 3)) : pm_Snd E y pc (pc + 3) po_fmt := by
  intro N J C M Q S hN hJ hC hM h
  obtain ⟨ls, st, x⟩ := S
  intro n0 p e s m args below meth c H locs la QQ F hP hS hl hk1 hk2 hn hend
  have hG := F.2.2.2.2.2.2.2.2.2.2.1
  exact va_gets F.1 F.2.1 hG.2.2.2.2.2.2.2 hS F.2.2.2.1 (F.2.2.2.2.1 _ hw) (fun _ h9 => h9) hd (hN _ h n0 p e s m args below meth c H locs la QQ F hP hS hl hk1 hk2 hn hend)
