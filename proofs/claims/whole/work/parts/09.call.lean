/-! ===== calls, and runs over a method's table ===== -/
def pk_args : Nat → List Value → List Value → (List Value → List Value → Prop) → Prop
  | 0, st, acc, k => k acc st
  | _ + 1, [], _, _ => False
  | n + 1, v :: st, acc, k => pk_args n st (v :: acc) k
theorem pk_args_of : ∀ (n : Nat) (st acc : List Value) (k : List Value → List Value → Prop), pk_args n st acc k → ∃ vs r : List Value, st = vs ++ r ∧ vs.length = n ∧ k (vs.reverse ++ acc) r
  | 0, st, acc, k, h => ⟨[], st, rfl, rfl, h⟩
  | n + 1, [], acc, k, h => h.elim
  | n + 1, v :: st, acc, k, h => by
    obtain ⟨vs, r, h1, h2, h3⟩ := pk_args_of n st (v :: acc) k h
    refine ⟨v :: vs, r, by rw [h1]; rfl, by rw [List.length_cons, h2], ?_⟩
    rw [List.reverse_cons, List.append_assoc]
    exact h3
def pk_push (v : Option Value) (r : List Value) : List Value := match v with
  | none => r
  | some v => v :: r
theorem pk_push_map (E : pm_E) (v : Option Value) (r : List Value) : (v.map (pm_v E)).toList ++ r.map (pm_v E) = (pk_push v r).map (pm_v E) := by
  cases v <;> rfl
theorem pm_good (l : List Cond) (h : ∀ w ∈ l, w ∈ pm_ws) : GoodIn pm_ws l := fun w hw => ⟨h w hw, good_of_word (List.mem_filter.mp (h w hw)).2⟩
/-- what a callee's words want -/
def pm_Ce (y n : Nat) : Prop := Cond.code (pm_nm y) (pm_cd y) (pm_mL y) (pm_rt y) ∈ pm_ws ∧ Cond.initialized (pm_nm y).cls ∈ pm_ws ∧ ((pm_nm y).cls ≠ "java/lang/invoke/MethodHandle" ∧ (pm_nm y).cls ≠ "java/lang/invoke/VarHandle" ∧ (parseMethodDescriptor (pm_nm y).desc).map (fun d => d.parameters.length) = some n) ∧ plainName (pm_nm y).cls = true ∧ ¬ y = 0
theorem pm_Ce.good {y n : Nat} (h : pm_Ce y n) : GoodIn pm_ws (pm_Wd y) := pm_good _ (fun w hw => by
  rcases List.mem_cons.mp hw with rfl | q
  · exact h.1
  · exact q)
section PMC
variable {E : pm_E} {y y' n0 pc : Nat} {p : Program} {e : Env} {s : State} {m : MethodId} {args : Array Value} {below : List Frame} {meth : Method} {c : Code} {H : Heap} {locs : List Loc} {la : Array Slot} {QQ : State → Prop} {h : List va_E} {K : pm_Q} {kc ks mc ms : Nat}
theorem pm_goes {rest st0 : List Value} {a : Array Value} (hr : va_Run p E.1 e (pm_rm y) s m args below meth c H locs kc ks mc ms (F0 m pc la st0) rest (pm_Qc E y' h K a) (pm_A E)) (hS : va_S (pm_A E) s.heap H locs)
    (kk : ∀ (r : Option Value) (h' : List va_E) (H1 : Heap) (locs1 : List Loc), K r h' → va_P E.2.1 vwCl (pm_w E 0 h') H1 → va_S (pm_A E) s.heap H1 locs1 → h'.length = h.length + (pm_rm y').cells → W p E.1 e (pm_rm y) s m args below meth c H1 locs1 (kc + mc) (ks + ms) QQ (F0 m (pc + 3) la ((r.map (pm_v E)).toList ++ rest))) : W p E.1 e (pm_rm y) s m args below meth c H locs kc ks QQ (F0 m pc la st0) := by
  intro T hT X
  obtain ⟨v, st₀, t, T', L, h0, X', hL, e1, e2, ⟨⟨r, h', hv, hK, hP', hl'⟩, hz, hk⟩, st⟩ := hr T hT X
  cases hv
  rw [h0] at hz hk
  obtain ⟨t2, a1, b1⟩ := kk r h' T'.heap (locs ++ L) hK (by rw [e1]; exact hP')
    ⟨Nat.le_trans hS.1 (by rw [e1]; exact hz), fun q h1 h2 => by rw [e1, hk q (Nat.lt_of_lt_of_le h1 hS.1) h2]; exact hS.2.1 q h1 h2, fun q hq => by
      rcases List.mem_append.mp hq with h | h
      · exact hS.2.2 q h
      · exact hL q h⟩ hl' T' rfl X'
  exact ⟨t2, st t2 a1, b1⟩
theorem pm_pre (F : pm_Fr E y n0 p s m args meth c) (hP : va_P E.2.1 vwCl (pm_w E 0 h) H) (hS : va_S (pm_A E) s.heap H locs) (hz : H.size = pm_ad E 4 + h.length) (as : List Value) : ∀ U : State, U.heap = H → s.WarmedH U.vm → pm_Pc E as h (as.map (pm_v E)).toArray U := by
  intro U hU hW
  refine ⟨rfl, by rw [hU]; exact hP, va_K.moved hW.alike F.2.2.2.2.2.2.2.2.2.1, fun w hw => pm_nest_warm (List.mem_filter.mp hw).2 hW (F.2.2.2.2.2.1 w hw), ?_, by rw [hU]; exact hz⟩
  rw [hU]
  exact F.2.2.2.2.2.2.2.2.2.2.1.warm hW hS.1 hS.2.1
end PMC
/-- a static method -/
def po_callS (y' n nL : Nat) : pm_Op := fun N _ C _ _ s => match s with
  | (ls, st, h, kc, ks) => pk_args n st [] fun as r => pk_is (Nat.ble (pk_cat r) 8) (pk_is (Nat.ble (pl_f as).length nL) (C y' as h (fun v h' => N (ls, pk_push v r, h', kc, ks))))
theorem pm_call_end {E : pm_E} {y y' n0 pc kc ks : Nat} {p : Program} {e : Env} {s : State} {m : MethodId} {args : Array Value} {below : List Frame} {meth : Method} {c : Code} {H : Heap} {locs : List Loc} {la : Array Slot} {QQ : State → Prop} {hp : List va_E} {N : pm_St → Prop} {Q : pm_Q} {ls : List (Option Value)} {r st st0 : List Value} {a : Array Value}
    (hN : ∀ S', N S' → Sm E y (pc + 3) S' Q) (F : pm_Fr E y n0 p s m args meth c) (hl : pl_has E la (pm_mL y) ls) (hk1 : kc ≤ (pm_rm y).cells) (hk2 : ks ≤ (pm_rm y).slots) (hn : hp.length = n0 + kc) (hc0 : (pm_rm y').cells = 0) (hs0 : (pm_rm y').slots = 0)
    (hend : ∀ (r : Option Value) (h : List va_E) (H' : Heap) (locs' : List Loc) (la' : Array Slot) (pc' : Nat), Q r h → pm_rd y pc' r → va_P E.2.1 vwCl (pm_w E 0 h) H' → va_S (pm_A E) s.heap H' locs' → (h.length = n0 + (pm_rm y).cells ∨ y = 0) → W p E.1 e (pm_rm y) s m args below meth c H' locs' (pm_rm y).cells (pm_rm y).slots QQ (F0 m pc' la' (r.toList.map (pm_v E))))
    (hS : va_S (pm_A E) s.heap H locs)
    (hr : va_Run p E.1 e (pm_rm y) s m args below meth c H locs kc ks (pm_rm y').cells (pm_rm y').slots (F0 m pc la st0) (r.map (pm_v E)) (pm_Qc E y' hp (fun v h' => N (ls, pk_push v r, h', kc, ks)) a) (pm_A E)) :
    W p E.1 e (pm_rm y) s m args below meth c H locs kc ks QQ (F0 m pc la st0) := by
  refine pm_goes hr hS (fun v h' H1 locs1 hK hP1 hS1 hl1 => ?_)
  rw [pk_push_map, hc0, hs0]
  exact hN _ hK n0 p e s m args below meth c H1 locs1 la QQ F hP1 hS1 hl hk1 hk2 (by show h'.length = n0 + kc; rw [hl1, hc0]; exact hn) hend
theorem ps_callS {E : pm_E} {y pc y' n nL idx : Nat} (hce : pm_Ce y' n) (hst : Cond.static (pm_nm y') ∈ pm_ws) (hw : Cond.methodLink (pm_nm y).cls idx (pm_nm y') ∈ pm_ws) (hR : (pm_rm y').frames + 1 ≤ (pm_rm y).frames ∧ 8 + (pm_mL y' + 11) + (pm_rm y').locals ≤ (pm_rm y).locals) (hnL : pm_mL y' = nL) (hc0 : (pm_rm y').cells = 0) (hs0 : (pm_rm y').slots = 0) (hd : decode (pm_cd y) pc = .ok (.invokestatic idx, 3)) : pm_Snd E y pc (pc + 3) (po_callS y' n nL) := by
  intro N J C M Q S hN hJ hC hM h
  obtain ⟨ls, st, hp, kc, ks⟩ := S
  obtain ⟨vs, r, rfl, hlen, h1⟩ := pk_args_of _ _ _ _ h
  rw [List.append_nil] at h1
  obtain ⟨h2, h1'⟩ := pk_is_of h1
  obtain ⟨h3, h4⟩ := pk_is_of h1'
  intro n0 p e s m args below meth c H locs la QQ F hP hS hl hk1 hk2 hn hend
  have hts := F.2.2.2.2.1
  have hM' := pm_met hce.2.2.2.2 hce.2.2.2.1 (by rw [hnL]; exact Nat.le_of_ble_eq_true h3) (hC _ _ _ _ h4)
  refine pm_sz F hP hS hn (fun hz => ?_)
  refine pm_call_end (y' := y') (N := N) (ls := ls) (r := r) (hp := hp) (st := vs ++ r) hN F hl hk1 hk2 hn hc0 hs0 hend hS (va_runS (As := vs.reverse.map (pm_v E)) (Ts := pm_ws) ⟨F.1, F.2.1, F.2.2.1, F.2.2.2.1, hts⟩ hM' ⟨callB_of n hts hce.good rfl rfl rfl (hts _ hce.2.1) (hts _ hw) hce.2.2.1 hR, hts _ hst⟩ ⟨pm_blind E _ _, pm_pre F hP hS hz _⟩ rfl (by rw [List.length_map, List.length_reverse]; exact hlen) hl.1 ?_ (lv_room (by rw [pk_cat_eq (pm_fm_cat F.2.2.2.2.2.2.2.2.2.2.1)]; exact Nat.le_of_ble_eq_true h2)) hd ⟨by rw [hc0]; exact hk1, by rw [hs0]; exact hk2⟩)
  show (vs ++ r).map (pm_v E) = _
  rw [List.map_append, List.map_reverse, List.reverse_reverse]
theorem ps_callSN {E : pm_E} {y pc y' n nL idx : Nat} {host : String} (hce : pm_Ce y' n) (hst : Cond.static (pm_nm y') ∈ pm_ws) (hw : Cond.methodLinkNest (pm_nm y).cls idx (pm_nm y') host ∈ pm_nw) (hR : (pm_rm y').frames + 1 ≤ (pm_rm y).frames ∧ 8 + (pm_mL y' + 11) + (pm_rm y').locals ≤ (pm_rm y).locals) (hnL : pm_mL y' = nL) (hc0 : (pm_rm y').cells = 0) (hs0 : (pm_rm y').slots = 0) (hd : decode (pm_cd y) pc = .ok (.invokestatic idx, 3)) : pm_Snd E y pc (pc + 3) (po_callS y' n nL) := by
  intro N J C M Q S hN hJ hC hM h
  obtain ⟨ls, st, hp, kc, ks⟩ := S
  obtain ⟨vs, r, rfl, hlen, h1⟩ := pk_args_of _ _ _ _ h
  rw [List.append_nil] at h1
  obtain ⟨h2, h1'⟩ := pk_is_of h1
  obtain ⟨h3, h4⟩ := pk_is_of h1'
  intro n0 p e s m args below meth c H locs la QQ F hP hS hl hk1 hk2 hn hend
  have hts := F.2.2.2.2.1
  have hM' := pm_met hce.2.2.2.2 hce.2.2.2.1 (by rw [hnL]; exact Nat.le_of_ble_eq_true h3) (hC _ _ _ _ h4)
  refine pm_sz F hP hS hn (fun hz => ?_)
  refine pm_call_end (y' := y') (N := N) (ls := ls) (r := r) (hp := hp) (st := vs ++ r) hN F hl hk1 hk2 hn hc0 hs0 hend hS (va_runSN (As := vs.reverse.map (pm_v E)) (Ts := pm_ws) ⟨F.1, F.2.1, F.2.2.1, F.2.2.2.1, hts⟩ hM' ⟨va_cnB n hts hce.good rfl rfl rfl (F.2.2.2.2.2.1 _ hw) (hts _ hce.2.1) hce.2.2.1 hR, hts _ hst, trivial⟩ ⟨pm_blind E _ _, pm_pre F hP hS hz _⟩ rfl (by rw [List.length_map, List.length_reverse]; exact hlen) hl.1 ?_ (lv_room (by rw [pk_cat_eq (pm_fm_cat F.2.2.2.2.2.2.2.2.2.2.1)]; exact Nat.le_of_ble_eq_true h2)) hd ⟨by rw [hc0]; exact hk1, by rw [hs0]; exact hk2⟩)
  show (vs ++ r).map (pm_v E) = _
  rw [List.map_append, List.map_reverse, List.reverse_reverse]
/-- a method of an object of the class ci -/
def pk_rc (ci : Nat) (as : List Value) (h : List va_E) (P : Prop) : Prop := match as with
  | .ref a :: _ => pk_at h a fun _ o => pk_ob ci o fun _ => P
  | _ => False
theorem pk_rc_of {ci : Nat} {as : List Value} {h : List va_E} {P : Prop} (q : pk_rc ci as h P) : ∃ (i : Nat) (bs : List Value) (fs : List Value), as = .ref (i + 4) :: bs ∧ h[i]? = some (.inr (ci, fs)) ∧ P := by
  unfold pk_rc at q
  split at q
  · obtain ⟨i, x, rfl, hx, q1⟩ := pk_at_of q
    obtain ⟨fs, rfl, q2⟩ := pk_ob_of q1
    exact ⟨i, _, fs, rfl, hx, q2⟩
  · exact q.elim
def po_callV (ci y' n nL : Nat) : pm_Op := fun N _ C _ _ s => match s with
  | (ls, st, h, kc, ks) => pk_args (n + 1) st [] fun as r => pk_rc ci as h (pk_is (Nat.ble (pk_cat r) 8) (pk_is (Nat.ble (pl_f as).length nL) (C y' as h (fun v h' => N (ls, pk_push v r, h', kc, ks)))))
theorem ps_callV {E : pm_E} {y pc ci y' n nL idx N0 : Nat} {Cn : String} {T : u_T} {ty : Nat → FieldType} (hcl : pm_Cl ci Cn T N0 ty) (hcy : (pm_nm y').cls = Cn) (hce : pm_Ce y' n) (hst : Cond.instanceMethod (pm_nm y') ∈ pm_ws) (hse : Cond.selects Cn (pm_nm y') (pm_nm y') ∈ pm_ws) (hw : Cond.methodLink (pm_nm y).cls idx (pm_nm y') ∈ pm_ws) (hR : (pm_rm y').frames + 1 ≤ (pm_rm y).frames ∧ 8 + (pm_mL y' + 11) + (pm_rm y').locals ≤ (pm_rm y).locals) (hnL : pm_mL y' = nL) (hc0 : (pm_rm y').cells = 0) (hs0 : (pm_rm y').slots = 0) (hd : decode (pm_cd y) pc = .ok (.invokevirtual idx, 3)) : pm_Snd E y pc (pc + 3) (po_callV ci y' n nL) := by
  intro N J C M Q S hN hJ hC hM h
  obtain ⟨ls, st, hp, kc, ks⟩ := S
  obtain ⟨vs, r, rfl, hlen, h1⟩ := pk_args_of _ _ _ _ h
  rw [List.append_nil] at h1
  obtain ⟨i, bs, fs, hrev, hob, h1⟩ := pk_rc_of h1
  obtain ⟨h2, h1'⟩ := pk_is_of h1
  obtain ⟨h3, h4⟩ := pk_is_of h1'
  intro n0 p e s m args below meth c H locs la QQ F hP hS hl hk1 hk2 hn hend
  have hts := F.2.2.2.2.1
  rw [hrev] at h3 h4
  have hM' := pm_met hce.2.2.2.2 hce.2.2.2.1 (by rw [hnL]; exact Nat.le_of_ble_eq_true h3) (hC _ _ _ _ h4)
  have hvs : vs = bs.reverse ++ [.ref (i + 4)] := by
    have := congrArg List.reverse hrev
    rw [List.reverse_reverse, List.reverse_cons] at this
    exact this
  have hln : bs.length = n := by
    have := congrArg List.length hvs
    rw [hlen, List.length_append, List.length_reverse] at this
    simp at this
    omega
  refine pm_sz F hP hS hn (fun hz => ?_)
  have hpre := pm_pre F hP hS hz (.ref (i + 4) :: bs)
  rw [List.map_cons, pm_v_ref4] at hpre
  refine pm_call_end (y' := y') (N := N) (ls := ls) (r := r) (hp := hp) (st := vs ++ r) hN F hl hk1 hk2 hn hc0 hs0 hend hS (va_runV (C := Cn) (b := pm_ad E (i + 4)) (As := bs.map (pm_v E)) (Ts := pm_ws) ⟨F.1, F.2.1, F.2.2.1, F.2.2.2.1, hts⟩ hM' ⟨callB_of n hts hce.good rfl rfl rfl (hts _ hce.2.1) (hts _ hw) hce.2.2.1 hR, hts _ hst, hts _ hse⟩ ⟨pm_blind E _ _, va_recv F.2.2.2.2.2.2.2.2.2.1 hP hcl.1 (pm_w_at hob), hpre⟩ rfl (by rw [List.length_map]; exact hln) hl.1 ?_ (lv_room (by rw [pk_cat_eq (pm_fm_cat F.2.2.2.2.2.2.2.2.2.2.1)]; exact Nat.le_of_ble_eq_true h2)) hd ⟨by rw [hc0]; exact hk1, by rw [hs0]; exact hk2⟩)
  show (vs ++ r).map (pm_v E) = _
  rw [hvs, List.append_assoc, List.map_append, List.map_reverse, List.singleton_append, List.map_cons, pm_v_ref4]
/-- a method of the String -/
def po_callT (y' n nL : Nat) : pm_Op := fun N _ C _ _ s => match s with
  | (ls, st, h, kc, ks) => pk_args (n + 1) st [] fun as r => match as with
    | .ref 1 :: bs => pk_is (Nat.ble (pk_cat r) 8) (pk_is (Nat.ble (pl_f (.ref 1 :: bs)).length nL) (C y' (.ref 1 :: bs) h (fun v h' => N (ls, pk_push v r, h', kc, ks))))
    | _ => False
theorem ps_callT {E : pm_E} {y pc y' n nL idx : Nat} (hcy : (pm_nm y').cls = "java/lang/String") (hce : pm_Ce y' n) (hst : Cond.instanceMethod (pm_nm y') ∈ pm_ws) (hse : Cond.selects "java/lang/String" (pm_nm y') (pm_nm y') ∈ pm_ws) (hw : Cond.methodLink (pm_nm y).cls idx (pm_nm y') ∈ pm_ws) (hR : (pm_rm y').frames + 1 ≤ (pm_rm y).frames ∧ 8 + (pm_mL y' + 11) + (pm_rm y').locals ≤ (pm_rm y).locals) (hnL : pm_mL y' = nL) (hc0 : (pm_rm y').cells = 0) (hs0 : (pm_rm y').slots = 0) (hd : decode (pm_cd y) pc = .ok (.invokevirtual idx, 3)) : pm_Snd E y pc (pc + 3) (po_callT y' n nL) := by
  intro N J C M Q S hN hJ hC hM h
  obtain ⟨ls, st, hp, kc, ks⟩ := S
  obtain ⟨vs, r, rfl, hlen, h1⟩ := pk_args_of _ _ _ _ h
  rw [List.append_nil] at h1
  generalize hrv : vs.reverse = as at h1
  match as, h1, hrv with
  | .ref 1 :: bs, h1, hrev =>
    obtain ⟨h2, h1'⟩ := pk_is_of h1
    obtain ⟨h3, h4⟩ := pk_is_of h1'
    intro n0 p e s m args below meth c H locs la QQ F hP hS hl hk1 hk2 hn hend
    have hts := F.2.2.2.2.1
    have hM' := pm_met hce.2.2.2.2 hce.2.2.2.1 (by rw [hnL]; exact Nat.le_of_ble_eq_true h3) (hC _ _ _ _ h4)
    have hvs : vs = bs.reverse ++ [.ref 1] := by
      have := congrArg List.reverse hrev
      rw [List.reverse_reverse, List.reverse_cons] at this
      exact this
    have hln : bs.length = n := by
      have := congrArg List.length hvs
      rw [hlen, List.length_append, List.length_reverse] at this
      simp at this
      omega
    refine pm_sz F hP hS hn (fun hz => ?_)
    have hpre := pm_pre F hP hS hz (.ref 1 :: bs)
    rw [List.map_cons, pm_v_ref (E := E) (a := 1) (by decide)] at hpre
    refine pm_call_end (y' := y') (N := N) (ls := ls) (r := r) (hp := hp) (st := vs ++ r) hN F hl hk1 hk2 hn hc0 hs0 hend hS (va_runV (C := "java/lang/String") (b := pm_ad E 1) (As := bs.map (pm_v E)) (Ts := pm_ws) ⟨F.1, F.2.1, F.2.2.1, F.2.2.2.1, hts⟩ hM' ⟨callB_of n hts hce.good rfl rfl rfl (hts _ hce.2.1) (hts _ hw) hce.2.2.1 hR, hts _ hst, hts _ hse⟩ ⟨pm_blind E _ _, vk_recv F.2.2.2.2.2.2.2.2.2.2.1.2.2.2.2.2.1 (i := 0) (by decide) hS, hpre⟩ rfl (by rw [List.length_map]; exact hln) hl.1 ?_ (lv_room (by rw [pk_cat_eq (pm_fm_cat F.2.2.2.2.2.2.2.2.2.2.1)]; exact Nat.le_of_ble_eq_true h2)) hd ⟨by rw [hc0]; exact hk1, by rw [hs0]; exact hk2⟩)
    show (vs ++ r).map (pm_v E) = _
    rw [hvs, List.append_assoc, List.map_append, List.map_reverse, List.singleton_append, List.map_cons, pm_v_ref (E := E) (a := 1) (by decide)]
/-- a constructor: it makes mc' cells of ms' slots -/
def po_callI (y' n nL mc' ms' mc ms : Nat) : pm_Op := fun N _ C _ _ s => match s with
  | (ls, st, h, kc, ks) => pk_args (n + 1) st [] fun as r => match as with
    | .ref (a + 4) :: bs => pk_is (Nat.ble (pk_cat r) 8) (pk_is (Nat.ble (pl_f (.ref (a + 4) :: bs)).length nL) (pk_is (Nat.ble (kc + mc') mc) (pk_is (Nat.ble (ks + ms') ms) (C y' (.ref (a + 4) :: bs) h (fun v h' => N (ls, pk_push v r, h', kc + mc', ks + ms'))))))
    | _ => False
theorem ps_callI0 {E : pm_E} {y pc y' n nL idx mc' ms' mc ms : Nat} (hce : pm_Ce y' n) (hnm : (pm_nm y').name = "<init>") (hrt : pm_rt y' = none) (hst : Cond.instanceMethod (pm_nm y') ∈ pm_ws) (hnL : pm_mL y' = nL) (hc0 : (pm_rm y').cells = mc') (hs0 : (pm_rm y').slots = ms') (hmc : mc ≤ (pm_rm y).cells) (hms : ms ≤ (pm_rm y).slots)
    (hrun : ∀ (n0 : Nat) (p : Program) (e : Env) (s : State) (m : MethodId) (args : Array Value) (below : List Frame) (meth : Method) (c : Code) (H : Heap) (locs : List Loc) (la : Array Slot) (kc ks : Nat) (hp : List va_E) (b : Addr) (As rest : List Value) (Pc : Array Value → State → Prop) (Qc : Array Value → State → Outcome → State → Prop), pm_Fr E y n0 p s m args meth c → Met E.1 (pm_nm y') (pm_Wd y') (pm_rm y') Pc Qc (pm_rm y').cells (pm_rm y').slots (pm_A E) → PreS s H Pc (.ref b :: As) → As.length = n → la.size = pm_mL y → (rest.map fun v => v.category).sum ≤ 8 → kc + (pm_rm y').cells ≤ (pm_rm y).cells → ks + (pm_rm y').slots ≤ (pm_rm y).slots → va_Run p E.1 e (pm_rm y) s m args below meth c H locs kc ks (pm_rm y').cells (pm_rm y').slots (F0 m pc la (As.reverse ++ .ref b :: rest)) rest (Qc (Value.ref b :: As).toArray) (pm_A E)) : pm_Snd E y pc (pc + 3) (po_callI y' n nL mc' ms' mc ms) := by
  intro N J C M Q S hN hJ hC hM h
  obtain ⟨ls, st, hp, kc, ks⟩ := S
  obtain ⟨vs, r, rfl, hlen, h1⟩ := pk_args_of _ _ _ _ h
  rw [List.append_nil] at h1
  generalize hrv : vs.reverse = as at h1
  match as, h1, hrv with
  | .ref (i + 4) :: bs, h1, hrev =>
    obtain ⟨h2, h1'⟩ := pk_is_of h1
    obtain ⟨h3, h1''⟩ := pk_is_of h1'
    obtain ⟨b1, h1'''⟩ := pk_is_of h1''
    obtain ⟨b2, h4⟩ := pk_is_of h1'''
    have b1 := Nat.le_of_ble_eq_true b1
    have b2 := Nat.le_of_ble_eq_true b2
    intro n0 p e s m args below meth c H locs la QQ F hP hS hl hk1 hk2 hn hend
    have hts := F.2.2.2.2.1
    have hM' := pm_met hce.2.2.2.2 hce.2.2.2.1 (by rw [hnL]; exact Nat.le_of_ble_eq_true h3) (hC _ _ _ _ h4)
    have hvs : vs = bs.reverse ++ [.ref (i + 4)] := by
      have := congrArg List.reverse hrev
      rw [List.reverse_reverse, List.reverse_cons] at this
      exact this
    have hln : bs.length = n := by
      have := congrArg List.length hvs
      rw [hlen, List.length_append, List.length_reverse] at this
      simp at this
      omega
    refine pm_sz F hP hS hn (fun hz => ?_)
    have hpre := pm_pre F hP hS hz (.ref (i + 4) :: bs)
    rw [List.map_cons, pm_v_ref4] at hpre
    have hr := hrun n0 p e s m args below meth c H locs la kc ks hp (pm_ad E (i + 4)) (bs.map (pm_v E)) (r.map (pm_v E)) _ _ F hM' ⟨pm_blind E _ _, hpre⟩ (by rw [List.length_map]; exact hln) hl.1 (by rw [pk_cat_eq (pm_fm_cat F.2.2.2.2.2.2.2.2.2.2.1)]; exact Nat.le_of_ble_eq_true h2) (by rw [hc0]; omega) (by rw [hs0]; omega)
    have hst0 : (bs.map (pm_v E)).reverse ++ .ref (pm_ad E (i + 4)) :: r.map (pm_v E) = (vs ++ r).map (pm_v E) := by
      rw [hvs, List.append_assoc, List.map_append, List.map_reverse, List.singleton_append, List.map_cons, pm_v_ref4]
    rw [hst0] at hr
    refine pm_goes hr hS (fun v h' H1 locs1 hK hP1 hS1 hl1 => ?_)
    rw [pk_push_map]
    rw [hc0] at hl1
    have hk := hN _ hK n0 p e s m args below meth c H1 locs1 la QQ F hP1 hS1 hl (by show kc + mc' ≤ _; omega) (by show ks + ms' ≤ _; omega) (by show h'.length = n0 + (kc + mc'); have : hp.length = n0 + kc := hn; omega) hend
    rw [hc0, hs0]
    exact hk
theorem ps_callI {E : pm_E} {y pc y' n nL idx mc' ms' mc ms : Nat} (hce : pm_Ce y' n) (hnm : (pm_nm y').name = "<init>") (hrt : pm_rt y' = none) (hst : Cond.instanceMethod (pm_nm y') ∈ pm_ws) (hw : Cond.methodLink (pm_nm y).cls idx (pm_nm y') ∈ pm_ws) (hR : (pm_rm y').frames + 1 ≤ (pm_rm y).frames ∧ 8 + (pm_mL y' + 11) + (pm_rm y').locals ≤ (pm_rm y).locals) (hnL : pm_mL y' = nL) (hc0 : (pm_rm y').cells = mc') (hs0 : (pm_rm y').slots = ms') (hmc : mc ≤ (pm_rm y).cells) (hms : ms ≤ (pm_rm y).slots) (hd : decode (pm_cd y) pc = .ok (.invokespecial idx, 3)) : pm_Snd E y pc (pc + 3) (po_callI y' n nL mc' ms' mc ms) := by
  refine ps_callI0 (idx := idx) hce hnm hrt hst hnL hc0 hs0 hmc hms ?_
  intro n0 p e s m args below meth c H locs la kc ks hp b As rest Pc Qc F hM hpre hlen hla hcat hf1 hf2
  have hts := F.2.2.2.2.1
  exact va_runI (Ts := pm_ws) ⟨F.1, F.2.1, F.2.2.1, F.2.2.2.1, hts⟩ hM ⟨callB_of n hts hce.good (by rw [← hrt]; rfl) rfl rfl (hts _ hce.2.1) (hts _ hw) hce.2.2.1 hR, hnm, hts _ hst⟩ hpre rfl hlen hla rfl (lv_room hcat) hd ⟨hf1, hf2⟩
theorem ps_callIN {E : pm_E} {y pc y' n nL idx mc' ms' mc ms : Nat} {host : String} (hce : pm_Ce y' n) (hnm : (pm_nm y').name = "<init>") (hrt : pm_rt y' = none) (hst : Cond.instanceMethod (pm_nm y') ∈ pm_ws) (hw : Cond.methodLinkNest (pm_nm y).cls idx (pm_nm y') host ∈ pm_nw) (hR : (pm_rm y').frames + 1 ≤ (pm_rm y).frames ∧ 8 + (pm_mL y' + 11) + (pm_rm y').locals ≤ (pm_rm y).locals) (hnL : pm_mL y' = nL) (hc0 : (pm_rm y').cells = mc') (hs0 : (pm_rm y').slots = ms') (hmc : mc ≤ (pm_rm y).cells) (hms : ms ≤ (pm_rm y).slots) (hd : decode (pm_cd y) pc = .ok (.invokespecial idx, 3)) : pm_Snd E y pc (pc + 3) (po_callI y' n nL mc' ms' mc ms) := by
  refine ps_callI0 (idx := idx) hce hnm hrt hst hnL hc0 hs0 hmc hms ?_
  intro n0 p e s m args below meth c H locs la kc ks hp b As rest Pc Qc F hM hpre hlen hla hcat hf1 hf2
  have hts := F.2.2.2.2.1
  exact va_runIN (Ts := pm_ws) ⟨F.1, F.2.1, F.2.2.1, F.2.2.2.1, hts⟩ hM ⟨va_cnB n hts hce.good (by rw [← hrt]; rfl) rfl rfl (F.2.2.2.2.2.1 _ hw) (hts _ hce.2.1) hce.2.2.1 hR, hnm, hts _ hst⟩ hpre rfl hlen hla rfl (lv_room hcat) hd ⟨hf1, hf2⟩
/-- Object's own constructor -/
def po_obj : pm_Op := fun N _ _ _ _ s => match s with
  | (ls, st, x) => pk_r st fun a r => pk_n3 a (pk_is (Nat.ble (pk_cat r) 8) (N (ls, r, x)))
theorem ps_obj {E : pm_E} {y pc idx : Nat} (hw : Cond.methodLink (pm_nm y).cls idx objectInit ∈ pm_ws) (hw2 : Cond.instanceMethod objectInit ∈ pm_ws) (hw3 : Cond.code objectInit ⟨#[0xb1]⟩ 1 none ∈ pm_ws) (hfr : 1 ≤ (pm_rm y).frames) (hlo : 20 ≤ (pm_rm y).locals) (hd : decode (pm_cd y) pc = .ok (.invokespecial idx, 3)) : pm_Snd E y pc (pc + 3) po_obj := by
  intro N J C M Q S hN hJ hC hM h
  obtain ⟨ls, st, x⟩ := S
  obtain ⟨a, r, rfl, h0⟩ := pk_r_of h
  obtain ⟨h3, h1⟩ := pk_n3_of h0
  obtain ⟨h2, h4⟩ := pk_is_of h1
  intro n0 p e s m args below meth c H locs la QQ F hP hS hl hk1 hk2 hn hend
  have hts := F.2.2.2.2.1
  show W p E.1 e (pm_rm y) s m args below meth c H locs _ _ QQ (F0 m pc la (List.map (pm_v E) (.ref a :: r)))
  rw [List.map_cons, pm_v_ref h3]
  refine W.objInit F.1 F.2.1 F.2.2.2.1 (hts _ hw) (hts _ hw2) (hts _ hw3) rfl (hl.1.trans F.2.2.1.symm) rfl hd hfr ?_ (hN _ h4 n0 p e s m args below meth c H locs la QQ F hP hS hl hk1 hk2 hn hend)
  have := Nat.le_of_ble_eq_true h2
  rw [pk_cat_eq (pm_fm_cat F.2.2.2.2.2.2.2.2.2.2.1)]
  show 2 * 0 + _ + 12 ≤ _
  omega
-- runs
abbrev pm_Cd : Type := List (Nat × pm_Op)
def pm_at : pm_Cd → Nat → pm_Cd
  | [], _ => []
  | (pc, op) :: l, t => match Nat.beq pc t with
    | true => (pc, op) :: l
    | false => pm_at l t
theorem pm_at_suffix : ∀ (cd : pm_Cd) (t : Nat), (pm_at cd t) <:+ cd ∧ ∀ pc op l, pm_at cd t = (pc, op) :: l → pc = t
  | [], t => ⟨⟨[], rfl⟩, fun _ _ _ h => by cases h⟩
  | (pc, op) :: l, t => by
    unfold pm_at
    split
    · rename_i hq
      refine ⟨⟨[], rfl⟩, fun pc' op' l' h => ?_⟩
      cases h
      exact Nat.eq_of_beq_eq_true hq
    · obtain ⟨h1, h2⟩ := pm_at_suffix l t
      exact ⟨h1.trans ⟨[(pc, op)], rfl⟩, h2⟩
def pm_All (E : pm_E) (y : Nat) : pm_Cd → Prop
  | [] => True
  | (pc, op) :: l => (match l with
    | [] => pm_Snd E y pc 0 op
    | (pc', _) :: _ => pm_Snd E y pc pc' op) ∧ pm_All E y l
theorem pm_All.suffix {E : pm_E} {y : Nat} : ∀ {cd is : pm_Cd}, is <:+ cd → pm_All E y cd → pm_All E y is
  | [], is, h, _ => by
    rw [List.suffix_nil.mp h]
    trivial
  | x :: l, is, h, ha => by
    rcases List.suffix_cons_iff.mp h with rfl | h
    · exact ha
    · exact pm_All.suffix h ha.2
def nP (E : pm_E) (y : Nat) (cd : pm_Cd) : Nat → pm_Cd → pm_St → pm_Q → Prop
  | 0, is, s, Q => match is with
    | [] => False
    | (pc, _) :: _ => True ∧ Sm E y pc s Q
  | n + 1, is, s, Q => match is with
    | [] => False
    | (pc, op) :: is' => op (fun s' => nP E y cd n is' s' Q) (fun t s' => nP E y cd n (pm_at cd t) s' Q) (fun y' as h K => True ∧ Sm E y' 0 (pl_entry (pm_mL y') as, [], h, 0, 0) K) (fun s' => True ∧ Sm E y pc s' Q) Q s
theorem nP_nil {E : pm_E} {y : Nat} {cd : pm_Cd} {n : Nat} {s : pm_St} {Q : pm_Q} (h : nP E y cd n [] s Q) : False := by
  cases n <;> exact h
theorem pm_run {E : pm_E} {y : Nat} {cd : pm_Cd} (hA : pm_All E y cd) : ∀ (n : Nat) (is : pm_Cd), is <:+ cd → ∀ (s : pm_St) (Q : pm_Q) (pc : Nat) (op : pm_Op) (is' : pm_Cd), is = (pc, op) :: is' → nP E y cd n is s Q → Sm E y pc s Q
  | 0, is, hs, s, Q, pc, op, is', he, h => by
    subst he
    exact h.2
  | n + 1, is, hs, s, Q, pc, op, is', he, h => by
    subst he
    have hAll := hA.suffix hs
    have hs' : is' <:+ cd := List.IsSuffix.trans ⟨[(pc, op)], rfl⟩ hs
    have hJ : ∀ t S', nP E y cd n (pm_at cd t) S' Q → Sm E y t S' Q := by
      intro t S' hq
      obtain ⟨h1, h2⟩ := pm_at_suffix cd t
      cases hc : pm_at cd t with
      | nil => rw [hc] at hq; exact (nP_nil hq).elim
      | cons x l =>
        obtain ⟨pc2, op2⟩ := x
        have := pm_run hA n _ h1 S' Q pc2 op2 l hc hq
        rw [h2 pc2 op2 l hc] at this
        exact this
    cases is' with
    | nil => exact hAll.1 _ _ _ _ Q s (fun S' hq => (nP_nil hq).elim) hJ (fun y' as h K hq => hq.2) (fun S' hq => hq.2) h
    | cons x l =>
      obtain ⟨pc2, op2⟩ := x
      exact hAll.1 _ _ _ _ Q s (fun S' hq => pm_run hA n _ hs' S' Q pc2 op2 l rfl hq) hJ (fun y' as h K hq => hq.2) (fun S' hq => hq.2) h
/-- from a method's entry -/
theorem pm_go {E : pm_E} {y : Nat} {cd : pm_Cd} (hA : pm_All E y cd) (n : Nat) {s : pm_St} {Q : pm_Q} {op : pm_Op} {l : pm_Cd} (hc : cd = (0, op) :: l) (h : nP E y cd n cd s Q) : Sm E y 0 s Q := pm_run hA n cd (List.suffix_refl cd) s Q 0 op l hc h
/-- from behind a mark -/
theorem pm_lp {E : pm_E} {y : Nat} {cd : pm_Cd} (hA : pm_All E y cd) (n t : Nat) {s : pm_St} {Q : pm_Q} {x : Nat × pm_Op} {op : pm_Op} {l : pm_Cd} (hc : pm_at cd t = x :: (t, op) :: l) (h : nP E y cd n ((t, op) :: l) s Q) : Sm E y t s Q :=
  pm_run hA n _ (List.IsSuffix.trans ⟨[x], hc.symm⟩ (pm_at_suffix cd t).1) s Q t op l rfl h
