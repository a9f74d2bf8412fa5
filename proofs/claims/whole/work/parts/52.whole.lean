theorem wh_cls {s : State} {A : Array Value} (hts : ∀ w ∈ pm_ws, w.before A s = true) : ∃ D : va_G, ∀ (k : Nat) (q : vw_C), vwCl[k]? = some q → u_Kn s q.1 q.2.1 q.2.2 (D.1 k) (D.2 k) := by
  have h0 : ∀ k : Nat, ∃ D : ClassId × (Nat → Nat), ∀ q : vw_C, vwCl[k]? = some q → u_Kn s q.1 q.2.1 q.2.2 D.1 D.2 := by
    have key : ∀ {k : Nat} {C : String} {T : u_T} {N : Nat} {ty : Nat → FieldType}, pm_Cl k C T N ty → Cond.instantiable C N ∈ pm_ws → ∃ D : ClassId × (Nat → Nat), ∀ q : vw_C, vwCl[k]? = some q → u_Kn s q.1 q.2.1 q.2.2 D.1 D.2 := by
      intro k C T N ty hc hi
      obtain ⟨cC, iS, hk⟩ := u_known (C := C) (T := T) (N := N) (n := N) hts hc.2.1 (hts _ hi)
      exact ⟨(cC, iS), fun q hq => by rw [hc.1] at hq; cases hq; exact hk⟩
    intro k
    match k with
    | 0 => exact key cl_0 wd_164
    | 1 => exact key cl_1 wd_96
    | 2 => exact key cl_2 wd_42
    | 3 => exact key cl_3 wd_188
    | 4 => exact key cl_4 wd_68
    | 5 => exact key cl_5 wd_144
    | 6 => exact key cl_6 wd_62
    | 7 => exact key cl_7 wd_27
    | 8 => exact key cl_8 wd_19
    | 9 => exact key cl_9 wd_642
    | k + 10 => exact ⟨((0 : Nat), fun _ => 0), fun q hq => by cases hq⟩
  obtain ⟨f, hf⟩ := Classical.axiomOfChoice h0
  exact ⟨(fun k => (f k).1, fun k => (f k).2), hf⟩
theorem wh_arr {s : State} {A : Array Value} {ty : FieldType} (h : (Cond.arrayClass ty).before A s = true) : ∃ c : ClassId, ArrOfT s c ty ∧ s.vm.findClass ("[" ++ ty.toString) = some c := by
  obtain ⟨c, k, comp, h1, h2, h3⟩ := Cond.arrayClass_spec h
  exact ⟨c, fun n z => ⟨fun k h => (by cases h), k, h2, comp, h3⟩, h1⟩
theorem wh_nest {w : Cond} (hw : pm_nest w = true) {A : Array Value} {s : State} (h : w.before A s = true) : va_Nw w s := by
  cases w <;> simp [pm_nest] at hw
  · exact va_Nw.of rfl h
  · exact va_Nw.of rfl h
def wh_tc (c0 c1 c2 c3 : ClassId) : Nat → ClassId
  | 0 => c0
  | 1 => c1
  | 2 => c2
  | _ => c3
def wh_ad (b k v z : Nat) : Nat → Nat
  | 0 => b
  | 1 => k
  | 2 => v
  | 3 => 0
  | n + 4 => z + n
theorem whole_start {p : Program} {e : Env} {s : State} {m : MethodId} {below : List Frame} {meth : Method} {c : Code} (l : Launch) (hflags : l.flags = flags0) {b L : Nat} {xs : Nat → Int32} (hL : L ≤ 3072) (C0 : lw_At p s m meth c b L xs) : W p l e room_1 s m #[Value.ref b] below meth c s.heap [] 0 0 (lw_Z below #[Value.ref b] s) (entryFrame m ([Value.ref b] : List Value).toArray 4) := by
  obtain ⟨hx, hb, hr, hml, hown, hts, hX, hbl, hlocks, hgv, hnm⟩ := id C0
  have hfl := flat_of_before _ hgv
  have hws : ∀ w ∈ pm_ws, w.before #[Value.ref b] s = true := fun w hw => hts w (List.mem_filter.mp hw).1
  obtain ⟨D, hD⟩ := wh_cls hws
  obtain ⟨c0, a0, n0⟩ := wh_arr (hws _ wd_40)
  obtain ⟨c1, a1, n1⟩ := wh_arr (hws _ wd_94)
  obtain ⟨c2, a2, n2⟩ := wh_arr (hws _ wd_60)
  have hAO : va_AO "DoubtTime$State" s := va_AO.of (hts _ wh_ao)
  obtain ⟨comp, c3, k3, g1, g2, g3, g4, g5⟩ := Cond.arrayOver_spec (hts _ wh_ao)
  have hA : ∀ a : Nat, a < s.heap.size → ¬ (fun q => s.heap.size ≤ q) a := fun a ha => Nat.not_le.mpr ha
  obtain ⟨adK, adV, hS, hev⟩ := vk_Sof (args := #[Value.ref b]) (s := s) (N := 1) (tm := fun _ => wh_tm) (len := [70]) (byt := [pm_bytes]) (A := fun q => s.heap.size ≤ q) (fun i hi => by obtain rfl : i = 0 := (by omega); decide) (fun i hi => hfl _ wh_ex) (fun i hi => hfl _ wh_co) (fun i hi => hfl _ wh_ar) (fun i hi => by obtain rfl : i = 0 := (by omega); exact hfl _ wh_le) (fun i hi j hj => by obtain rfl : i = 0 := (by omega); exact hfl _ (wh_el j hj)) (fun i j hi hj hij => absurd (show i = j by omega) hij) hA
  have hR : vk_R "DoubtTime" 51 pm_text (adK 0) s := vk_R.of (hts _ wh_sr) (hev 0 (by omega))
  have hZ1 : va_Z "java/lang/String" "COMPACT_STRINGS" "Z" (.int 1) (fun q => s.heap.size ≤ q) s s.heap := va_Zof (hts _ wh_l1) (hts _ wh_i1) (va_eqt (hfl _ wh_cs)) hA
  obtain ⟨fm, hfm, hZ2⟩ : ∃ fm : Value, (fm = .null ∨ ∃ t : Nat, fm = .ref t) ∧ va_Z "jdk/internal/util/Preconditions" "SIOOBE_FORMATTER" "Ljava/util/function/BiFunction;" fm (fun q => s.heap.size ≤ q) s s.heap := by
    rcases va_Zqof (hts _ wh_l2) (hts _ wh_i2) (hfl _ wh_fm) hA with h | ⟨t, h⟩
    · exact ⟨_, Or.inl rfl, h⟩
    · exact ⟨_, Or.inr ⟨t, rfl⟩, h⟩
  obtain ⟨E, hE⟩ : ∃ E : pm_E, E = (l, D, wh_tc c0 c1 c2 c3, wh_ad b (adK 0) (adV 0) s.heap.size, L, xs, fm) := ⟨_, rfl⟩
  have hG : pm_G E s s.heap := by
    subst hE
    refine ⟨fun k => ?_, hfm, ⟨hX, hbl, Nat.le_refl _⟩, hAO, hR, ⟨fun i hi => ?_, fun i j hi hj _ => by omega⟩, hZ1, hZ2⟩
    · show s.heap.size + k = s.heap.size + 0 + k
      omega
    · obtain rfl : i = 0 := by omega
      exact hS.1 0 hi
  have hK : va_K E.2.1 vwCl (pm_ty E) s := by
    subst hE
    refine ⟨hD, fun k q hq => ?_⟩
    match k, hq with
    | 0, hq => cases hq; exact ⟨a0, n0⟩
    | 1, hq => cases hq; exact ⟨a1, n1⟩
    | 2, hq => cases hq; exact ⟨a2, n2⟩
    | 3, hq => cases hq; exact ⟨fun n z => ⟨fun k h => (by cases h), k3, g3, comp, g4⟩, k3, comp, g3, g4, g1, g5⟩
    | k + 4, hq => cases hq
  have hz : s.heap.size = pm_ad E 4 + 0 := by subst hE; rfl
  have hv0 : pm_v E (.ref 0) = .ref b := by subst hE; rfl
  have hl1 : E.1 = l := by subst hE; rfl
  have hL1 : pm_L E = L := by subst hE; rfl
  clear hE
  have hlaw := w_law (E := E) (Q := fun r _ => r = some (.int 1)) (by rw [hL1]; exact hL) (fun _ => rfl)
  have hf := pm_fm_cat hG
  have hl := lv_entry (([.ref 0] : List Value).map (pm_v E)) (n := 4) (by rw [pl_f_len E hf]; decide)
  have hent : entryFrame m ([Value.ref b] : List Value).toArray 4 = entryFrame m ((([.ref 0] : List Value).map (pm_v E))).toArray 4 := by rw [List.map_cons, hv0]; rfl
  rw [hent, lg_entry_eq, ← hl1]
  generalize (lg_sl (([.ref 0] : List Value).map (pm_v E)) ++ List.replicate (4 - (lg_sl (([.ref 0] : List Value).map (pm_v E))).length) Slot.unset).toArray = la at hl ⊢
  refine hlaw 0 p e s m _ below meth c s.heap [] la _ ⟨hx, hb, hml, hown, hws, fun w hw => wh_nest (List.mem_filter.mp hw).2 (hts w (List.mem_append_right _ (List.mem_filter.mp hw).1)), hr, hlocks, hnm, hK, hG, hz⟩ (fun k q h => by simp [pm_w] at h) va_S.rf ⟨hl.1, hl.2.1, fun i v hi => ?_⟩ (Nat.zero_le _) (Nat.zero_le _) rfl ?_
  · have h1 := pl_f_args E hf [.ref 0] 0 i v (pl_pad_get _ _ _ _ hi)
    rw [Nat.zero_add] at h1
    exact hl.2.2 _ h1
  · intro r h' H' locs' la' pc' hq hrd hP' hS' _
    subst hq
    obtain ⟨hd, -⟩ := hrd
    refine va_forget (fun q hq => ?_) ?_
    · have := hS'.2.2 q hq
      rw [hz]
      exact this
    · exact lw_ret hx hb hr hlocks hd
