/-! ===== the text: numbers, items ===== -/
def ch (T : zT) (p : Nat) : Int32 := if p < T.2.toNatClampNeg then T.1 p else 0
def okX (T : zT) : Prop := ∃ n : Nat, T.2 = nI n ∧ n ≤ 200 ∧ ∀ j, j < n → ∃ a : Nat, a < 128 ∧ T.1 j = nI a
theorem ch_char {T : zT} (h : okX T) (p : Nat) : ∃ a : Nat, a < 128 ∧ ch T p = nI a := by
  obtain ⟨n, h1, h2, h3⟩ := h
  unfold ch
  rw [h1, nI_clamp (by omega)]
  split
  · rename_i q
    exact h3 p q
  · exact ⟨0, by omega, rfl⟩
theorem ch_nar {T : zT} (h : okX T) (p : Nat) : narrow .char (.int (ch T p)) = .int (ch T p) ∧ fits .char (.int (ch T p)) = true := by
  obtain ⟨a, h1, h2⟩ := ch_char h p
  rw [h2]
  exact pk_charN (by omega)
theorem c_letter {E : pm_E} {Q : pm_Q} {x : zD} {m : List va_E} {p : Nat} (hT : okX (xT x)) (hp : p < 1000) (h : Q (some (.int (ch (xT x) p))) (mkG x m)) : Sm E n_X7_letterAt 0 (pl_entry 2 [.ref 5, .int (nI p)], [], mkG x m, 0, 0) Q := by
  have hn := ch_nar hT p
  obtain ⟨n, h1, h2, h3⟩ := hT
  refine pm_go (aX7_letterAt E) 100 rfl ?_
  conv => whnf
  refine ⟨fun q => absurd q (nI_pos (by omega)), fun _ => ?_⟩
  conv => whnf
  have hc : (xT x).2.toNatClampNeg = n := by rw [h1]; exact nI_clamp (by omega)
  refine ⟨fun q => ?_, fun q => ?_⟩
  · have q' : nI n ≤ nI p := by rw [← h1]; exact q
    have e : ch (xT x) p = 0 := by
      unfold ch
      rw [hc, if_neg (by have := (nI_leI (by omega) (by omega)).mp q'; omega)]
    rw [e] at h hn
    conv => whnf
    exact ⟨hn.1, h⟩
  · have q' : ¬ nI n ≤ nI p := by rw [← h1]; exact q
    have hlt : p < n := by
      rcases Nat.lt_or_ge p n with z | z
      · exact z
      · exact absurd (nI_le z (by omega)) q'
    have e : ch (xT x) p = (xT x).1 (nI p).toNatClampNeg := by
      unfold ch
      rw [hc, if_pos hlt, nI_clamp (by omega)]
    rw [e] at h hn
    conv => whnf
    refine ⟨vp_in_nI (by omega) (by decide), ?_⟩
    conv => whnf
    exact ⟨hn.1, h⟩
/-- figures from a place on: where they end, their number; none: too great -/
def pRun (c : Nat → Int32) : Nat → Nat → Int64 → Option (Nat × Int64)
  | 0, p, v => some (p, v)
  | k + 1, p, v => if 48 ≤ c p ∧ c p ≤ 57 then (if v ≤ (9223372036854775807 - (c p - 48).toInt64) / 10 then pRun c k (p + 1) (v * 10 + (c p - 48).toInt64) else none) else some (p, v)
theorem pRun_ge (c : Nat → Int32) : ∀ (k p : Nat) (v : Int64) (r : Nat × Int64), pRun c k p v = some r → p ≤ r.1 ∧ r.1 ≤ p + k
  | 0, p, v, r, h => by
    cases h
    exact ⟨Nat.le_refl _, Nat.le_refl _⟩
  | k + 1, p, v, r, h => by
    unfold pRun at h
    split at h
    · split at h
      · have := pRun_ge c k (p + 1) _ r h
        omega
      · cases h
    · cases h
      exact ⟨Nat.le_refl _, by omega⟩
/-- a number and the mark behind it -/
def pNM (c : Nat → Int32) (p : Nat) (mk : Int32) : Option (Nat × Int64) := match pRun c 19 p 0 with
  | none => none
  | some (q, v) => if q = p then none else if c q = mk then some (q + 1, v) else none
theorem pNM_ge {c : Nat → Int32} {p : Nat} {mk : Int32} {r : Nat × Int64} (h : pNM c p mk = some r) : p + 2 ≤ r.1 ∧ r.1 ≤ p + 20 := by
  unfold pNM at h
  split at h
  · cases h
  · rename_i q v hq
    have h1 := pRun_ge _ _ _ _ _ hq
    have h1 : p ≤ q ∧ q ≤ p + 19 := h1
    split at h
    · cases h
    · split at h
      · cases h
        exact ⟨by show p + 2 ≤ q + 1; omega, by show q + 1 ≤ p + 20; omega⟩
      · cases h
theorem l_num {E : pm_E} {Q : pm_Q} {x : zD} {m : List va_E} {i mk : Int32} {p0 : Nat} (hT : okX (xT x)) (hp0 : p0 < 500) (hi : vp_in i 4)
    (h1 : ∀ q v, pNM (ch (xT x)) p0 mk = some (q, v) → Q (some (.int 1)) (mkG (sI x (vp_updL (xI x).1 i.toNatClampNeg v, (xI x).2.1, nI q)) m)) (h0 : pNM (ch (xT x)) p0 mk = none → ∀ I', Q (some (.int 0)) (mkG (sI x I') m)) :
    ∀ (n k : Nat) (v : Int64) (o8 : Option Value), k + n = 19 → pRun (ch (xT x)) 19 p0 0 = pRun (ch (xT x)) n (p0 + k) v → Sm E n_X2_takeNumber 16 ([some (.ref 7), some (.ref 5), some (.int i), some (.int mk), some (.long v), none, some (.int (nI k)), some (.int (ch (xT x) (p0 + k))), o8], [], mkG (sI x ((xI x).1, (xI x).2.1, nI (p0 + k))) m, 0, 0) Q := by
  -- the end of the figures
  have fin : ∀ (k : Nat) (v : Int64) (o8 : Option Value) (N : Nat), N = 80 → k ≤ 19 → pRun (ch (xT x)) 19 p0 0 = some (p0 + k, v) → nP E n_X2_takeNumber tX2_takeNumber N (pm_at tX2_takeNumber 101) ([some (.ref 7), some (.ref 5), some (.int i), some (.int mk), some (.long v), none, some (.int (nI k)), some (.int (ch (xT x) (p0 + k))), o8], [], mkG (sI x ((xI x).1, (xI x).2.1, nI (p0 + k))) m, 0, 0) Q := by
    intro k v o8 N hN hk hr
    subst hN
    unfold pNM at h1 h0
    rw [hr] at h1 h0
    dsimp only at h1 h0
    conv => whnf
    refine ⟨fun q => ?_, fun q => ?_⟩
    · have hk0 : k = 0 := (nI_eq (b := 0) (by omega) (by omega)).mp q
      rw [if_pos (by omega)] at h0
      conv => whnf
      exact ⟨rfl, h0 rfl _⟩
    · have hk0 : ¬ k = 0 := fun z => q (by rw [z]; rfl)
      rw [if_neg (by omega)] at h0 h1
      conv => whnf
      refine ⟨fun q2 => ?_, fun q2 => ?_⟩
      · rw [if_pos q2] at h1
        have h1 := h1 _ _ rfl
        rw [nI_succ] at h1
        conv => whnf
        refine ⟨hi, ?_⟩
        conv => whnf
        exact ⟨rfl, h1⟩
      · rw [if_neg q2] at h0
        conv => whnf
        exact ⟨rfl, h0 rfl _⟩
  intro n
  induction n with
  | zero =>
    intro k v o8 hk hr
    refine pm_lp (aX2_takeNumber E) 83 16 rfl ?_
    conv => whnf
    refine ⟨fun _ => fin k v o8 _ rfl (by omega) hr, fun q => absurd (show nI 19 ≤ nI k from nI_le (by omega) (by omega)) q⟩
  | succ n ih =>
    intro k v o8 hk hr
    conv at hr => rhs; rw [pRun]
    by_cases d1 : 48 ≤ ch (xT x) (p0 + k)
    · by_cases d2 : ch (xT x) (p0 + k) ≤ 57
      · rw [if_pos ⟨d1, d2⟩] at hr
        refine pm_lp (aX2_takeNumber E) 100 16 rfl ?_
        conv => whnf
        refine ⟨fun q => absurd (show nI 19 ≤ nI k from q) (nI_ge (by omega) (by omega)), fun _ => ?_⟩
        conv => whnf
        refine ⟨fun q => absurd d1 (Int32.not_le.mpr q), fun _ => ?_⟩
        conv => whnf
        refine ⟨fun q => absurd d2 (Int32.not_le.mpr q), fun _ => ?_⟩
        conv => whnf
        refine ⟨by decide, ?_⟩
        conv => whnf
        refine ⟨fun q => ?_, fun q => ?_⟩
        · rw [if_pos q] at hr
          conv => whnf
          refine ⟨trivial, ?_⟩
          have e1 : nI (p0 + k) + 1 = nI (p0 + (k + 1)) := by rw [← nI_succ]; rfl
          refine (show ∀ z : Int32, z = nI (p0 + (k + 1)) → Sm E n_X7_letterAt 0 (pl_entry 2 [.ref 5, .int z], [], mkG (sI x ((xI x).1, (xI x).2.1, z)) m, 0, 0) _ from ?_) _ e1
          intro z hz
          subst hz
          refine c_letter (x := sI x ((xI x).1, (xI x).2.1, nI (p0 + (k + 1)))) hT (by omega) ?_
          conv => whnf
          refine ⟨trivial, ?_⟩
          have := ih (k + 1) _ (some (.int (ch (xT x) (p0 + k) - 48))) (by omega) hr
          rw [nI_succ] at this
          exact this
        · rw [if_neg q] at hr
          unfold pNM at h0
          rw [hr] at h0
          conv => whnf
          exact ⟨rfl, h0 rfl _⟩
      · rw [if_neg (fun z => d2 z.2)] at hr
        refine pm_lp (aX2_takeNumber E) 89 16 rfl ?_
        conv => whnf
        refine ⟨fun q => absurd (show nI 19 ≤ nI k from q) (nI_ge (by omega) (by omega)), fun _ => ?_⟩
        conv => whnf
        refine ⟨fun q => absurd d1 (Int32.not_le.mpr q), fun _ => ?_⟩
        conv => whnf
        refine ⟨fun _ => fin k v o8 _ rfl (by omega) hr, fun q => absurd (Int32.not_lt.mp q) d2⟩
    · rw [if_neg (fun z => d1 z.1)] at hr
      refine pm_lp (aX2_takeNumber E) 86 16 rfl ?_
      conv => whnf
      refine ⟨fun q => absurd (show nI 19 ≤ nI k from q) (nI_ge (by omega) (by omega)), fun _ => ?_⟩
      conv => whnf
      refine ⟨fun _ => fin k v o8 _ rfl (by omega) hr, fun q => absurd (Int32.not_lt.mp q) d1⟩
theorem c_num {E : pm_E} {Q : pm_Q} {x : zD} {m : List va_E} {i mk : Int32} {p : Nat} (hT : okX (xT x)) (hp : p < 500) (hi : vp_in i 4) (hb : (xI x).2.2 = nI p)
    (h1 : ∀ q v, pNM (ch (xT x)) p mk = some (q, v) → Q (some (.int 1)) (mkG (sI x (vp_updL (xI x).1 i.toNatClampNeg v, (xI x).2.1, nI q)) m)) (h0 : pNM (ch (xT x)) p mk = none → ∀ I', Q (some (.int 0)) (mkG (sI x I') m)) :
    Sm E n_X2_takeNumber 0 (pl_entry 9 [.ref 7, .ref 5, .int i, .int mk], [], mkG x m, 0, 0) Q := by
  obtain ⟨xt, ⟨nu, kd, bh⟩, xr⟩ := x
  obtain rfl : bh = nI p := hb
  refine pm_go (aX2_takeNumber E) 100 rfl ?_
  conv => whnf
  refine ⟨trivial, c_letter (x := (xt, (nu, kd, nI p), xr)) hT (by omega) ?_⟩
  conv => whnf
  refine ⟨trivial, ?_⟩
  exact l_num (x := (xt, (nu, kd, nI p), xr)) hT hp hi h1 h0 19 0 0 none (by omega) rfl
