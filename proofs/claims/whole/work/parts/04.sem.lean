-- which cells a run may change: all that came behind the law's entry
def pm_A (E : pm_E) : Nat → Prop := fun q => pm_ad E 4 ≤ q
abbrev pm_ty (E : pm_E) : List (ClassId × FieldType) := [(pm_tc E 0, .char), (pm_tc E 1, .int), (pm_tc E 2, .long), (pm_tc E 3, .object "DoubtTime$State")]
def pm_bytes : List Int32 := [100, 49, 48, 48, 48, 59, 109, 48, 44, 57, 57, 48, 44, 49, 48, 49, 48, 59, 109, 49, 44, 49, 48, 48, 48, 44, 49, 48, 51, 48, 59, 109, 50, 44, 57, 57, 53, 44, 49, 48, 48, 53, 59, 109, 51, 44, 50, 48, 48, 48, 44, 50, 48, 49, 48, 59, 115, 49, 53, 48, 48, 44, 49, 44, 49, 48, 48, 44, 48, 59]
def pm_text : String := "d1000;m0,990,1010;m1,1000,1030;m2,995,1005;m3,2000,2010;s1500,1,100,0;"
/-- what stands around: the script, the String constant, two statics, the class of arrays of states -/
def pm_G (E : pm_E) (U : State) (H : Heap) : Prop :=
  (∀ k, pm_ad E (k + 4) = pm_ad E 4 + k) ∧ (pm_fm E = .null ∨ ∃ t : Nat, pm_fm E = .ref t) ∧ (va_X (pm_ad E 0) (pm_L E) (pm_xs E) U H ∧ pm_ad E 0 < pm_ad E 4 ∧ pm_ad E 4 ≤ H.size) ∧ va_AO "DoubtTime$State" U ∧
  vk_R "DoubtTime" 51 pm_text (pm_ad E 1) U ∧ vk_S 1 [70] [pm_bytes] (fun _ => pm_ad E 1) (fun _ => pm_ad E 2) (pm_A E) U H ∧ va_Z "java/lang/String" "COMPACT_STRINGS" "Z" (.int 1) (pm_A E) U H ∧ va_Z "jdk/internal/util/Preconditions" "SIOOBE_FORMATTER" "Ljava/util/function/BiFunction;" (pm_fm E) (pm_A E) U H
theorem pm_fm_cat {E : pm_E} {U : State} {H : Heap} (h : pm_G E U H) : (pm_fm E).category = 1 := by
  rcases h.2.1 with q | ⟨t, q⟩ <;> rw [q] <;> rfl
theorem pm_G.warm {E : pm_E} {s U : State} {H H1 : Heap} (h : pm_G E s H) (hW : s.WarmedH U.vm) (hz : H.size ≤ H1.size) (hq : ∀ q : Nat, q < H.size → ¬ pm_A E q → H1[q]? = H[q]?) : pm_G E U H1 := by
  obtain ⟨h1, h2, ⟨h3, h4, h5⟩, h6, h7, h8, h9, h10⟩ := h
  have hlt : pm_ad E 0 < H.size := Nat.lt_of_lt_of_le h4 h5
  refine ⟨h1, h2, ⟨(h3.kept (hq _ hlt (Nat.not_le.mpr h4))).moved hW.alike, h4, Nat.le_trans h5 hz⟩, h6.moved hW.alike, h7.warm hW, (h8.kept hq).moved hW.alike, (h9.kept hq).moved hW.alike, (h10.kept hq).moved hW.alike⟩
theorem pm_G.blind {E : pm_E} {u U : State} (h : pm_G E u u.heap) (hv : u.vm = U.vm) (hh : U.heap = u.heap) : pm_G E U U.heap := by
  obtain ⟨h1, h2, ⟨h3, h4, h5⟩, h6, h7, h8, h9, h10⟩ := h
  have ha : u.vm.Alike U.vm := by rw [hv]; exact Vm.Alike.refl U.vm
  rw [hh]
  exact ⟨h1, h2, ⟨h3.moved ha, h4, h5⟩, h6.moved ha, h7.same hv.symm, h8.moved ha, h9.moved ha, h10.moved ha⟩
/-- a method's frame: what holds from its entry on -/
def pm_Fr (E : pm_E) (y n0 : Nat) (p : Program) (s : State) (m : MethodId) (args : Array Value) (meth : Method) (c : Code) : Prop :=
  p.tables.exec = Jvm.exec ∧ c.code = pm_cd y ∧ c.maxLocals = pm_mL y ∧ s.vm.findClass (pm_nm y).cls = some m.cls ∧ (∀ w ∈ pm_ws, w.before args s = true) ∧ (∀ w ∈ pm_nw, va_Nw w s) ∧ meth.sig.returnType = pm_rt y ∧ meth.locks = false ∧ meth.name = (pm_nm y).name ∧
  va_K E.2.1 vwCl (pm_ty E) s ∧ pm_G E s s.heap ∧ s.heap.size = pm_ad E 4 + n0
/-- the instruction that gives the answer back -/
def pm_rd (y pc : Nat) (r : Option Value) : Prop := match r with
  | none => decode (pm_cd y) pc = .ok (.return_, 1) ∧ pm_rt y = none
  | some (.int v) => decode (pm_cd y) pc = .ok (.ireturn, 1) ∧ ∃ ty, pm_rt y = some ty ∧ narrow ty (.int v) = .int v
  | some (.long _) => decode (pm_cd y) pc = .ok (.lreturn, 1) ∧ pm_rt y = some .long
  | _ => False
/-- THE MEANING: from this pure state at pc the method y comes to its end with an answer and cells of which Q says so -/
def Sm (E : pm_E) (y pc : Nat) (S : pm_St) (Q : pm_Q) : Prop :=
  ∀ (n0 : Nat) (p : Program) (e : Env) (s : State) (m : MethodId) (args : Array Value) (below : List Frame) (meth : Method) (c : Code) (H : Heap) (locs : List Loc) (la : Array Slot) (QQ : State → Prop),
    pm_Fr E y n0 p s m args meth c → va_P E.2.1 vwCl (pm_w E 0 S.2.2.1) H → va_S (pm_A E) s.heap H locs → pl_has E la (pm_mL y) S.1 → S.2.2.2.1 ≤ (pm_rm y).cells → S.2.2.2.2 ≤ (pm_rm y).slots → S.2.2.1.length = n0 + S.2.2.2.1 →
    (∀ (r : Option Value) (h : List va_E) (H' : Heap) (locs' : List Loc) (la' : Array Slot) (pc' : Nat), Q r h → pm_rd y pc' r → va_P E.2.1 vwCl (pm_w E 0 h) H' → va_S (pm_A E) s.heap H' locs' → (h.length = n0 + (pm_rm y).cells ∨ y = 0) →
      W p E.1 e (pm_rm y) s m args below meth c H' locs' (pm_rm y).cells (pm_rm y).slots QQ (F0 m pc' la' (r.toList.map (pm_v E)))) →
    W p E.1 e (pm_rm y) s m args below meth c H locs S.2.2.2.1 S.2.2.2.2 QQ (F0 m pc la (S.2.1.map (pm_v E)))
/-- a weaker end -/
theorem Sm.mono {E : pm_E} {y pc : Nat} {S : pm_St} {Q Q' : pm_Q} (h : Sm E y pc S Q) (hq : ∀ r t, Q r t → Q' r t) : Sm E y pc S Q' :=
  fun n0 p e s m args below meth c H locs la QQ F hP hS hl hk1 hk2 hn hend => h n0 p e s m args below meth c H locs la QQ F hP hS hl hk1 hk2 hn (fun r t H' locs' la' pc' q => hend r t H' locs' la' pc' (hq r t q))
/-- fewer locals are known -/
def pl_le : List (Option Value) → List (Option Value) → Prop
  | [], _ => True
  | none :: l, [] => pl_le l []
  | none :: l, _ :: l' => pl_le l l'
  | some _ :: _, [] => False
  | some v :: l, o :: l' => o = some v ∧ pl_le l l'
theorem pl_le_get : ∀ (l l' : List (Option Value)), pl_le l l' → ∀ (i : Nat) (v : Value), pl_get l i = some v → pl_get l' i = some v
  | [], _, _, i, v, h => by simp [pl_get] at h
  | none :: l, [], q, 0, v, h => by simp [pl_get] at h
  | none :: l, [], q, i + 1, v, h => by
    have := pl_le_get l [] (by simpa [pl_le] using q) i v (by simpa [pl_get] using h)
    simp [pl_get] at this
  | none :: l, _ :: l', q, 0, v, h => by simp [pl_get] at h
  | none :: l, _ :: l', q, i + 1, v, h => by
    simp only [pl_get]
    exact pl_le_get l l' (by simpa [pl_le] using q) i v (by simpa [pl_get] using h)
  | some _ :: _, [], q, i, v, h => by simp [pl_le] at q
  | some u :: l, o :: l', q, 0, v, h => by
    simp only [pl_le] at q
    simp only [pl_get] at h ⊢
    rw [q.1, h]
  | some u :: l, o :: l', q, i + 1, v, h => by
    simp only [pl_get]
    simp only [pl_le] at q
    exact pl_le_get l l' q.2 i v (by simpa [pl_get] using h)
theorem Sm.weak {E : pm_E} {y pc : Nat} {ls ls' : List (Option Value)} {x : List Value × List va_E × Nat × Nat} {Q : pm_Q} (h : Sm E y pc (ls, x) Q) (hl : pl_le ls ls') : Sm E y pc (ls', x) Q :=
  fun n0 p e s m args below meth c H locs la QQ F hP hS hla hk1 hk2 hn hend => h n0 p e s m args below meth c H locs la QQ F hP hS ⟨hla.1, hla.2.1, fun i v hv => hla.2.2 i v (pl_le_get _ _ hl i v hv)⟩ hk1 hk2 hn hend
/-- the addresses of the cells are apart -/
theorem pm_D {E : pm_E} (hE : ∀ k, pm_ad E (k + 4) = pm_ad E 4 + k) (h : List va_E) : va_D (pm_A E) (pm_w E 0 h) := by
  have key : ∀ (k : Nat) (q : Nat × va_E), (pm_w E 0 h)[k]? = some q → q.1 = pm_ad E 4 + k := by
    intro k q hq
    rw [pm_w_get] at hq
    cases hk : h[k]? with
    | none => rw [hk] at hq; cases hq
    | some x =>
      rw [hk] at hq
      cases hq
      show pm_ad E (0 + k + 4) = _
      rw [Nat.zero_add, hE]
  refine ⟨fun i j x z hi hj hxz => ?_, fun k q hk => ?_⟩
  · rw [key i x hi, key j z hj] at hxz
    omega
  · show pm_ad E 4 ≤ q.1
    rw [key k q hk]
    omega
/-- the heap's size is known -/
theorem pm_sz {E : pm_E} {y n0 : Nat} {p : Program} {l : Launch} {e : Env} {R : Room} {s : State} {m : MethodId} {args : Array Value} {below : List Frame} {meth : Method} {c : Code} {H : Heap} {locs : List Loc} {QQ : State → Prop} {g : JFrame} {h : List va_E} {kc ks : Nat}
    (F : pm_Fr E y n0 p s m args meth c) (hP : va_P E.2.1 vwCl (pm_w E 0 h) H) (hS : va_S (pm_A E) s.heap H locs) (hn : h.length = n0 + kc) (k : H.size = pm_ad E 4 + h.length → W p l e R s m args below meth c H locs kc ks QQ g) : W p l e R s m args below meth c H locs kc ks QQ g := by
  intro T hT X
  have h1 := X.heapSize
  rw [hT] at h1
  have h2 : s.heap.size = pm_ad E 4 + n0 := F.2.2.2.2.2.2.2.2.2.2.2
  have h3 : pm_ad E 4 + h.length ≤ H.size := by
    by_cases hk : kc = 0
    · have := hS.1
      omega
    · have hl : h.length - 1 < h.length := by omega
      have hq : (pm_w E 0 h)[h.length - 1]? = some (pm_ad E (0 + (h.length - 1) + 4), pm_c E h[h.length - 1]) := by
        rw [pm_w_get, List.getElem?_eq_getElem hl]
        rfl
      have hlt := (hP _ _ hq).lt
      simp only [Nat.zero_add] at hlt
      rw [F.2.2.2.2.2.2.2.2.2.2.1.1 (h.length - 1)] at hlt
      omega
  exact k (by omega) T hT X
theorem pm_nest_warm {w : Cond} (hw : pm_nest w = true) {s U : State} (hW : s.WarmedH U.vm) (h : va_Nw w s) : va_Nw w U := by
  cases w <;> simp [pm_nest] at hw
  · exact va_Nw.warmM hW h
  · exact va_Nw.warmF hW h
theorem pm_nest_same {w : Cond} (hw : pm_nest w = true) {u U : State} (hv : u.vm = U.vm) (h : va_Nw w u) : va_Nw w U := by
  cases w <;> simp [pm_nest] at hw
  · exact va_Nw.same rfl hv h
  · exact va_Nw.same rfl hv h
/-! a method's contract out of its meaning -/
def pm_Wd (y : Nat) : List Cond := Cond.code (pm_nm y) (pm_cd y) (pm_mL y) (pm_rt y) :: pm_ws
def pm_Pc (E : pm_E) (as : List Value) (h : List va_E) : Array Value → State → Prop := fun v U => v = (as.map (pm_v E)).toArray ∧ va_P E.2.1 vwCl (pm_w E 0 h) U.heap ∧ va_K E.2.1 vwCl (pm_ty E) U ∧ (∀ w ∈ pm_nw, va_Nw w U) ∧ pm_G E U U.heap ∧ U.heap.size = pm_ad E 4 + h.length
def pm_Qc (E : pm_E) (y : Nat) (h : List va_E) (K : pm_Q) : Array Value → State → Outcome → State → Prop := fun _ st oc t => (∃ (r : Option Value) (h' : List va_E), oc = .returned (r.map (pm_v E)) ∧ K r h' ∧ va_P E.2.1 vwCl (pm_w E 0 h') t.heap ∧ h'.length = h.length + (pm_rm y).cells) ∧ va_F (pm_A E) st t
theorem pm_blind (E : pm_E) (as : List Value) (h : List va_E) : FrameBlind (pm_Pc E as h) := by
  intro a U g mk hq
  obtain ⟨q0, qP, qK, qN, qG, qz⟩ := hq
  exact ⟨q0, qP, va_K.moved (u := U) (U := U.calling g mk a) (Vm.Alike.refl U.vm) qK, fun w hw => pm_nest_same (u := U) (U := U.calling g mk a) (List.mem_filter.mp hw).2 rfl (qN w hw), qG.blind (U := U.calling g mk a) rfl rfl, qz⟩
theorem pm_met {E : pm_E} {y : Nat} {as : List Value} {h : List va_E} {K : pm_Q} (hy0 : ¬ y = 0) (hy : plainName (pm_nm y).cls = true) (hlen : (pl_f as).length ≤ pm_mL y) (hS : Sm E y 0 (pl_entry (pm_mL y) as, [], h, 0, 0) K) :
    Met E.1 (pm_nm y) (pm_Wd y) (pm_rm y) (pm_Pc E as h) (pm_Qc E y h K) (pm_rm y).cells (pm_rm y).slots (pm_A E) := by
  refine Met.ofW (cc := pm_cd y) (maxL := pm_mL y) (ret := pm_rt y) hy rfl ?_
  intro p e s m args below meth c s₁ B hml hv
  obtain ⟨rfl, hP, hK, hN, hG, hsz⟩ := hv
  have hts := atoms_spec (ws := pm_Wd y) B.pre
  have hf := pm_fm_cat hG
  have hl := lv_entry (as.map (pm_v E)) (n := pm_mL y) (by rw [pl_f_len E hf]; exact hlen)
  rw [lg_entry_eq]
  generalize (lg_sl (as.map (pm_v E)) ++ List.replicate (pm_mL y - (lg_sl (as.map (pm_v E))).length) Slot.unset).toArray = la at hl ⊢
  refine hS h.length p e s m _ below meth c s.heap [] la _ ⟨B.exec, B.bytes, hml, findClass_of_methodNamed B.named, fun w hw => hts w (List.mem_cons_of_mem _ hw), hN, B.returns, B.notSynchronized, (name_of_methodNamed B.named B.method).1, hK, hG, hsz⟩ hP va_S.rf ⟨hl.1, hl.2.1, fun i v hi => ?_⟩ (Nat.zero_le _) (Nat.zero_le _) rfl ?_
  · have h1 := pl_f_args E hf as 0 i v (pl_pad_get _ _ _ _ hi)
    rw [Nat.zero_add] at h1
    exact hl.2.2 _ h1
  · intro r h' H' locs' la' pc' hq hrd hP' hS' hn'
    have hn' : h'.length = h.length + (pm_rm y).cells := hn'.resolve_right hy0
    have hlocks := B.notSynchronized
    have hr := B.returns
    have hpost : ∀ (t : State) (v : Option Value), v = r.map (pm_v E) → t.heap = H' → s.WarmedH t.vm → pm_Qc E y h K (as.map (pm_v E)).toArray s (.returned v) t := by
      intro t v hv ht hW
      exact ⟨⟨r, h', by rw [hv], hq, by rw [ht]; exact hP', hn'⟩, hS'.F ht⟩
    match r, hrd, hpost with
    | none, hrd, hpost => exact W.vret B.exec B.bytes (hr.trans hrd.2) (fun t ht hW => hpost t none rfl ht hW) hS'.2.2 hrd.1
    | some (.int v), hrd, hpost =>
      obtain ⟨hd, ty, hty, hnr⟩ := hrd
      exact W.zret B.exec B.bytes (hr.trans hty) hnr (fun t ht hW => hpost t (some (.int v)) rfl ht hW) hS'.2.2 hd
    | some (.long v), hrd, hpost => exact W.lret B.exec B.bytes (hr.trans hrd.2) (fun t ht hW => hpost t (some (.long v)) rfl ht hW) hS'.2.2 hrd.1
