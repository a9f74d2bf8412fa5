/-! ===== the class's own methods: checks, bits, the past, commits, the leap ===== -/
def bc (v : Int32) : Int32 :=
  let u : Int32 → Int32 → Int32 := fun a b => (a.toUInt32 >>> (b.toUInt32 &&& Int32.toUInt32 31)).toInt32
  let a := v - (u v 1 &&& 1431655765)
  let b := (a &&& 858993459) + (u a 2 &&& 858993459)
  let c := (b + u b 4) &&& 252645135
  let d := c + u c 8
  (d + u d 16) &&& 63
theorem c_bc {E : pm_E} {Q : pm_Q} {h : List va_E} {v : Int32} (hq : Q (some (.int (bc v))) h) : Sm E n_J6_bitCount 0 (pl_entry 1 [.int v], [], h, 0, 0) Q := by
  refine pm_go (aJ6_bitCount_0f7a4 E) 100 rfl ?_
  conv => whnf
  exact ⟨trivial, hq⟩
abbrev nHd (M : zM) : Int32 := bc (M.2.2.2.1 &&& (M.2.2.2.2.1 ^^^ (-1)))
theorem c_many {E : pm_E} {Q : pm_Q} {x : zD} {m : List va_E} (h : Q (some (.int (nHd (xS x).1))) (mkG x m)) : Sm E n_X4_howManyHeard 0 (pl_entry 1 [.ref 10], [], mkG x m, 0, 0) Q := by
  refine pm_go (aX4_howManyHeard E) 100 rfl ?_
  conv => whnf
  refine ⟨trivial, c_bc ?_⟩
  conv => whnf
  exact ⟨trivial, h⟩
theorem c_hasTold {E : pm_E} {Q : pm_Q} {x : zD} {m : List va_E} {i : Int32} (h1 : ((xS x).1.2.2.2.1 >>> (i &&& 31)) &&& 1 = 1 → Q (some (.int 1)) (mkG x m)) (h0 : ¬ ((xS x).1.2.2.2.1 >>> (i &&& 31)) &&& 1 = 1 → Q (some (.int 0)) (mkG x m)) : Sm E n_X4_hasTold 0 (pl_entry 2 [.ref 10, .int i], [], mkG x m, 0, 0) Q := by
  refine pm_go (aX4_hasTold E) 100 rfl ?_
  conv => whnf
  refine ⟨fun q => ?_, fun q => ?_⟩
  · conv => whnf
    exact ⟨rfl, h0 q⟩
  · conv => whnf
    exact ⟨rfl, h1 q⟩
def dHear (M : zM) (i : Int32) (a b : Int64) (t : Int32) : zM := (vp_updL M.1 i.toNatClampNeg a, vp_updL M.2.1 i.toNatClampNeg b, upd M.2.2.1 i.toNatClampNeg t, M.2.2.2.1 ||| (1 <<< (i &&& 31)), M.2.2.2.2)
theorem c_hear {E : pm_E} {Q : pm_Q} {x : zD} {m : List va_E} {i t : Int32} {a b : Int64} (hi : vp_in i 6) (h : Q none (mkG (sS x (dHear (xS x).1 i a b t, (xS x).2)) m)) : Sm E n_X4_hear 0 (pl_entry 7 [.ref 10, .int i, .long a, .long b, .int t], [], mkG x m, 0, 0) Q := by
  refine pm_go (aX4_hear E) 100 rfl ?_
  conv => whnf
  refine ⟨hi, ?_⟩
  conv => whnf
  refine ⟨hi, ?_⟩
  conv => whnf
  refine ⟨hi, ?_⟩
  conv => whnf
  exact ⟨trivial, h⟩
-- checks
theorem c_isMaster {E : pm_E} {Q : pm_Q} {h : List va_E} {v : Int64} (h1 : 0 ≤ v ∧ v < 6 → Q (some (.int 1)) h) (h0 : ¬ (0 ≤ v ∧ v < 6) → Q (some (.int 0)) h) : Sm E n_X8_isMaster 0 (pl_entry 2 [.long v], [], h, 0, 0) Q := by
  refine pm_go (aX8_isMaster E) 100 rfl ?_
  conv => whnf
  refine ⟨fun q => ?_, fun q => ?_⟩
  · conv => whnf
    exact ⟨rfl, h0 (fun z => Int64.not_lt.mpr z.1 q)⟩
  · conv => whnf
    refine ⟨fun q2 => ?_, fun q2 => ?_⟩
    · conv => whnf
      exact ⟨rfl, h0 (fun z => Int64.not_lt.mpr q2 z.2)⟩
    · conv => whnf
      exact ⟨rfl, h1 ⟨Int64.not_lt.mp q, Int64.not_le.mp q2⟩⟩
theorem c_isKey {E : pm_E} {Q : pm_Q} {h : List va_E} {v : Int32} (h1 : 0 ≤ v ∧ v < 6 → Q (some (.int 1)) h) (h0 : ¬ (0 ≤ v ∧ v < 6) → Q (some (.int 0)) h) : Sm E n_X8_isKey 0 (pl_entry 1 [.int v], [], h, 0, 0) Q := by
  refine pm_go (aX8_isKey E) 100 rfl ?_
  conv => whnf
  refine ⟨fun q => ?_, fun q => ?_⟩
  · conv => whnf
    exact ⟨rfl, h0 (fun z => Int32.not_lt.mpr z.1 q)⟩
  · conv => whnf
    refine ⟨fun q2 => ?_, fun q2 => ?_⟩
    · conv => whnf
      exact ⟨rfl, h0 (fun z => Int32.not_lt.mpr q2 z.2)⟩
    · conv => whnf
      exact ⟨rfl, h1 ⟨Int32.not_lt.mp q, Int32.not_le.mp q2⟩⟩
theorem c_isDrift {E : pm_E} {Q : pm_Q} {h : List va_E} {v : Int64} (h1 : 0 ≤ v ∧ v ≤ 999999 → Q (some (.int 1)) h) (h0 : ¬ (0 ≤ v ∧ v ≤ 999999) → Q (some (.int 0)) h) : Sm E n_X8_isDrift 0 (pl_entry 2 [.long v], [], h, 0, 0) Q := by
  refine pm_go (aX8_isDrift E) 100 rfl ?_
  conv => whnf
  refine ⟨fun q => ?_, fun q => ?_⟩
  · conv => whnf
    exact ⟨rfl, h0 (fun z => Int64.not_lt.mpr z.1 q)⟩
  · conv => whnf
    refine ⟨fun q2 => ?_, fun q2 => ?_⟩
    · conv => whnf
      exact ⟨rfl, h0 (fun z => Int64.not_lt.mpr z.2 q2)⟩
    · conv => whnf
      exact ⟨rfl, h1 ⟨Int64.not_lt.mp q, Int64.not_lt.mp q2⟩⟩
theorem c_isAsked {E : pm_E} {Q : pm_Q} {h : List va_E} {v : Int64} (h1 : 0 ≤ v ∧ v ≤ 2000000000000 → Q (some (.int 1)) h) (h0 : ¬ (0 ≤ v ∧ v ≤ 2000000000000) → Q (some (.int 0)) h) : Sm E n_X8_isAsked 0 (pl_entry 2 [.long v], [], h, 0, 0) Q := by
  refine pm_go (aX8_isAsked E) 100 rfl ?_
  conv => whnf
  refine ⟨fun q => ?_, fun q => ?_⟩
  · conv => whnf
    exact ⟨rfl, h0 (fun z => Int64.not_lt.mpr z.1 q)⟩
  · conv => whnf
    refine ⟨fun q2 => ?_, fun q2 => ?_⟩
    · conv => whnf
      exact ⟨rfl, h0 (fun z => Int64.not_lt.mpr z.2 q2)⟩
    · conv => whnf
      exact ⟨rfl, h1 ⟨Int64.not_lt.mp q, Int64.not_lt.mp q2⟩⟩
abbrev okSpan (a b : Int64) : Prop := 0 ≤ a ∧ a ≤ b ∧ b ≤ 1000000000000
theorem c_isTold {E : pm_E} {Q : pm_Q} {h : List va_E} {a b : Int64} (h1 : okSpan a b → Q (some (.int 1)) h) (h0 : ¬ okSpan a b → Q (some (.int 0)) h) : Sm E n_X8_isToldSpan 0 (pl_entry 4 [.long a, .long b], [], h, 0, 0) Q := by
  refine pm_go (aX8_isToldSpan E) 100 rfl ?_
  conv => whnf
  refine ⟨fun q => ?_, fun q => ?_⟩
  · conv => whnf
    exact ⟨rfl, h0 (fun z => Int64.not_lt.mpr z.1 q)⟩
  · conv => whnf
    refine ⟨fun q2 => ?_, fun q2 => ?_⟩
    · conv => whnf
      exact ⟨rfl, h0 (fun z => Int64.not_lt.mpr z.2.1 q2)⟩
    · conv => whnf
      refine ⟨fun q3 => ?_, fun q3 => ?_⟩
      · conv => whnf
        exact ⟨rfl, h0 (fun z => Int64.not_lt.mpr z.2.2 q3)⟩
      · conv => whnf
        exact ⟨rfl, h1 ⟨Int64.not_lt.mp q, Int64.not_lt.mp q2, Int64.not_lt.mp q3⟩⟩
abbrev okLeap (a b c d : Int64) : Prop := (0 ≤ a ∧ a ≤ 1000000000000) ∧ (1 ≤ b ∧ b ≤ 1000) ∧ (b < c ∧ c ≤ 1000000000) ∧ (0 ≤ d ∧ d ≤ 1)
theorem c_isLeap {E : pm_E} {Q : pm_Q} {h : List va_E} {a b c d : Int64} (h1 : okLeap a b c d → Q (some (.int 1)) h) (h0 : ¬ okLeap a b c d → Q (some (.int 0)) h) : Sm E n_X8_isLeap 0 (pl_entry 8 [.long a, .long b, .long c, .long d], [], h, 0, 0) Q := by
  refine pm_go (aX8_isLeap E) 100 rfl ?_
  conv => whnf
  refine ⟨fun q => ?_, fun q => ?_⟩
  · conv => whnf
    exact ⟨rfl, h0 (fun z => Int64.not_lt.mpr z.1.1 q)⟩
  conv => whnf
  refine ⟨fun q2 => ?_, fun q2 => ?_⟩
  · conv => whnf
    exact ⟨rfl, h0 (fun z => Int64.not_lt.mpr z.1.2 q2)⟩
  conv => whnf
  refine ⟨fun q3 => ?_, fun q3 => ?_⟩
  · conv => whnf
    exact ⟨rfl, h0 (fun z => Int64.not_lt.mpr z.2.1.1 q3)⟩
  conv => whnf
  refine ⟨fun q4 => ?_, fun q4 => ?_⟩
  · conv => whnf
    exact ⟨rfl, h0 (fun z => Int64.not_lt.mpr z.2.1.2 q4)⟩
  conv => whnf
  refine ⟨fun q5 => ?_, fun q5 => ?_⟩
  · conv => whnf
    exact ⟨rfl, h0 (fun z => Int64.not_lt.mpr q5 z.2.2.1.1)⟩
  conv => whnf
  refine ⟨fun q6 => ?_, fun q6 => ?_⟩
  · conv => whnf
    exact ⟨rfl, h0 (fun z => Int64.not_lt.mpr z.2.2.1.2 q6)⟩
  conv => whnf
  refine ⟨fun q7 => ?_, fun q7 => ?_⟩
  · conv => whnf
    exact ⟨rfl, h0 (fun z => Int64.not_lt.mpr z.2.2.2.1 q7)⟩
  conv => whnf
  refine ⟨fun q8 => ?_, fun q8 => ?_⟩
  · conv => whnf
    exact ⟨rfl, h0 (fun z => Int64.not_lt.mpr z.2.2.2.2 q8)⟩
  conv => whnf
  exact ⟨rfl, h1 ⟨⟨Int64.not_lt.mp q, Int64.not_lt.mp q2⟩, ⟨Int64.not_lt.mp q3, Int64.not_lt.mp q4⟩, ⟨Int64.not_le.mp q5, Int64.not_lt.mp q6⟩, ⟨Int64.not_lt.mp q7, Int64.not_lt.mp q8⟩⟩⟩
-- the past
def dKeep (P : zP) (S : zS) : zP := (upS P.1 P.2.1.toNatClampNeg S, P.2.1 + 1 - (P.2.1 + 1) / 6 * 6, if 6 < P.2.2 + 1 then 6 else P.2.2 + 1)
theorem hR_at {i : Nat} (h : i < 6) : hR (nI i).toNatClampNeg = some (18 + 11 * i + 4) := by
  rw [nI_clamp (by omega)]
  unfold hR
  rw [if_pos h]
theorem c_keep0 {E : pm_E} {Q : pm_Q} {x : zD} {m : List va_E} {sz : Int32} {f : Nat → zS} (hx : xP x = (f, nI 0, sz)) (h : Q none (mkG (sP x (upS f 0 (xS x), nI 0 + 1 - (nI 0 + 1) / 6 * 6, if 6 < sz + 1 then 6 else sz + 1)) m)) : Sm E n_X5_keep 0 (pl_entry 2 [.ref 20, .ref 9], [], mkG x m, 0, 0) Q := by
  obtain ⟨x1, x2, x3, x4, x5, x6⟩ := x
  subst hx
  refine pm_go (aX5_keep E) 100 rfl ?_
  conv => whnf
  refine ⟨vp_in_nI (n := 0) (N := 6) (by decide) (by decide), 18, hR_at (i := 0) (by decide), ?_⟩
  conv => whnf
  refine ⟨trivial, c_scK0 ?_⟩
  conv => whnf
  refine ⟨by decide, ?_⟩
  conv => whnf
  exact ⟨trivial, h⟩
theorem c_give0 {E : pm_E} {Q : pm_Q} {x : zD} {m : List va_E} {nx sz : Int32} {f : Nat → zS} (hx : xP x = (f, nx, sz)) (hn : nx + 6 - 1 - (nx + 6 - 1) / 6 * 6 = nI 0) (h : Q none (mkG (sS (sP x (f, nI 0, sz - 1)) (f 0)) m)) : Sm E n_X5_giveBack 0 (pl_entry 2 [.ref 20, .ref 9], [], mkG x m, 0, 0) Q := by
  obtain ⟨x1, x2, x3, x4, x5, x6⟩ := x
  subst hx
  refine pm_go (aX5_giveBack E) 100 rfl ?_
  conv => whnf
  refine ⟨by decide, ?_⟩
  rw [hn]
  conv => whnf
  refine ⟨vp_in_nI (n := 0) (N := 6) (by decide) (by decide), 18, hR_at (i := 0) (by decide), ?_⟩
  conv => whnf
  refine ⟨trivial, c_scG0 (x := (x1, x2, x3, (f, nI 0, sz - 1), x5, x6)) ?_⟩
  conv => whnf
  exact ⟨trivial, h⟩
theorem c_keep1 {E : pm_E} {Q : pm_Q} {x : zD} {m : List va_E} {sz : Int32} {f : Nat → zS} (hx : xP x = (f, nI 1, sz)) (h : Q none (mkG (sP x (upS f 1 (xS x), nI 1 + 1 - (nI 1 + 1) / 6 * 6, if 6 < sz + 1 then 6 else sz + 1)) m)) : Sm E n_X5_keep 0 (pl_entry 2 [.ref 20, .ref 9], [], mkG x m, 0, 0) Q := by
  obtain ⟨x1, x2, x3, x4, x5, x6⟩ := x
  subst hx
  refine pm_go (aX5_keep E) 100 rfl ?_
  conv => whnf
  refine ⟨vp_in_nI (n := 1) (N := 6) (by decide) (by decide), 29, hR_at (i := 1) (by decide), ?_⟩
  conv => whnf
  refine ⟨trivial, c_scK1 ?_⟩
  conv => whnf
  refine ⟨by decide, ?_⟩
  conv => whnf
  exact ⟨trivial, h⟩
theorem c_give1 {E : pm_E} {Q : pm_Q} {x : zD} {m : List va_E} {nx sz : Int32} {f : Nat → zS} (hx : xP x = (f, nx, sz)) (hn : nx + 6 - 1 - (nx + 6 - 1) / 6 * 6 = nI 1) (h : Q none (mkG (sS (sP x (f, nI 1, sz - 1)) (f 1)) m)) : Sm E n_X5_giveBack 0 (pl_entry 2 [.ref 20, .ref 9], [], mkG x m, 0, 0) Q := by
  obtain ⟨x1, x2, x3, x4, x5, x6⟩ := x
  subst hx
  refine pm_go (aX5_giveBack E) 100 rfl ?_
  conv => whnf
  refine ⟨by decide, ?_⟩
  rw [hn]
  conv => whnf
  refine ⟨vp_in_nI (n := 1) (N := 6) (by decide) (by decide), 29, hR_at (i := 1) (by decide), ?_⟩
  conv => whnf
  refine ⟨trivial, c_scG1 (x := (x1, x2, x3, (f, nI 1, sz - 1), x5, x6)) ?_⟩
  conv => whnf
  exact ⟨trivial, h⟩
theorem c_keep2 {E : pm_E} {Q : pm_Q} {x : zD} {m : List va_E} {sz : Int32} {f : Nat → zS} (hx : xP x = (f, nI 2, sz)) (h : Q none (mkG (sP x (upS f 2 (xS x), nI 2 + 1 - (nI 2 + 1) / 6 * 6, if 6 < sz + 1 then 6 else sz + 1)) m)) : Sm E n_X5_keep 0 (pl_entry 2 [.ref 20, .ref 9], [], mkG x m, 0, 0) Q := by
  obtain ⟨x1, x2, x3, x4, x5, x6⟩ := x
  subst hx
  refine pm_go (aX5_keep E) 100 rfl ?_
  conv => whnf
  refine ⟨vp_in_nI (n := 2) (N := 6) (by decide) (by decide), 40, hR_at (i := 2) (by decide), ?_⟩
  conv => whnf
  refine ⟨trivial, c_scK2 ?_⟩
  conv => whnf
  refine ⟨by decide, ?_⟩
  conv => whnf
  exact ⟨trivial, h⟩
theorem c_give2 {E : pm_E} {Q : pm_Q} {x : zD} {m : List va_E} {nx sz : Int32} {f : Nat → zS} (hx : xP x = (f, nx, sz)) (hn : nx + 6 - 1 - (nx + 6 - 1) / 6 * 6 = nI 2) (h : Q none (mkG (sS (sP x (f, nI 2, sz - 1)) (f 2)) m)) : Sm E n_X5_giveBack 0 (pl_entry 2 [.ref 20, .ref 9], [], mkG x m, 0, 0) Q := by
  obtain ⟨x1, x2, x3, x4, x5, x6⟩ := x
  subst hx
  refine pm_go (aX5_giveBack E) 100 rfl ?_
  conv => whnf
  refine ⟨by decide, ?_⟩
  rw [hn]
  conv => whnf
  refine ⟨vp_in_nI (n := 2) (N := 6) (by decide) (by decide), 40, hR_at (i := 2) (by decide), ?_⟩
  conv => whnf
  refine ⟨trivial, c_scG2 (x := (x1, x2, x3, (f, nI 2, sz - 1), x5, x6)) ?_⟩
  conv => whnf
  exact ⟨trivial, h⟩
theorem c_keep3 {E : pm_E} {Q : pm_Q} {x : zD} {m : List va_E} {sz : Int32} {f : Nat → zS} (hx : xP x = (f, nI 3, sz)) (h : Q none (mkG (sP x (upS f 3 (xS x), nI 3 + 1 - (nI 3 + 1) / 6 * 6, if 6 < sz + 1 then 6 else sz + 1)) m)) : Sm E n_X5_keep 0 (pl_entry 2 [.ref 20, .ref 9], [], mkG x m, 0, 0) Q := by
  obtain ⟨x1, x2, x3, x4, x5, x6⟩ := x
  subst hx
  refine pm_go (aX5_keep E) 100 rfl ?_
  conv => whnf
  refine ⟨vp_in_nI (n := 3) (N := 6) (by decide) (by decide), 51, hR_at (i := 3) (by decide), ?_⟩
  conv => whnf
  refine ⟨trivial, c_scK3 ?_⟩
  conv => whnf
  refine ⟨by decide, ?_⟩
  conv => whnf
  exact ⟨trivial, h⟩
theorem c_give3 {E : pm_E} {Q : pm_Q} {x : zD} {m : List va_E} {nx sz : Int32} {f : Nat → zS} (hx : xP x = (f, nx, sz)) (hn : nx + 6 - 1 - (nx + 6 - 1) / 6 * 6 = nI 3) (h : Q none (mkG (sS (sP x (f, nI 3, sz - 1)) (f 3)) m)) : Sm E n_X5_giveBack 0 (pl_entry 2 [.ref 20, .ref 9], [], mkG x m, 0, 0) Q := by
  obtain ⟨x1, x2, x3, x4, x5, x6⟩ := x
  subst hx
  refine pm_go (aX5_giveBack E) 100 rfl ?_
  conv => whnf
  refine ⟨by decide, ?_⟩
  rw [hn]
  conv => whnf
  refine ⟨vp_in_nI (n := 3) (N := 6) (by decide) (by decide), 51, hR_at (i := 3) (by decide), ?_⟩
  conv => whnf
  refine ⟨trivial, c_scG3 (x := (x1, x2, x3, (f, nI 3, sz - 1), x5, x6)) ?_⟩
  conv => whnf
  exact ⟨trivial, h⟩
theorem c_keep4 {E : pm_E} {Q : pm_Q} {x : zD} {m : List va_E} {sz : Int32} {f : Nat → zS} (hx : xP x = (f, nI 4, sz)) (h : Q none (mkG (sP x (upS f 4 (xS x), nI 4 + 1 - (nI 4 + 1) / 6 * 6, if 6 < sz + 1 then 6 else sz + 1)) m)) : Sm E n_X5_keep 0 (pl_entry 2 [.ref 20, .ref 9], [], mkG x m, 0, 0) Q := by
  obtain ⟨x1, x2, x3, x4, x5, x6⟩ := x
  subst hx
  refine pm_go (aX5_keep E) 100 rfl ?_
  conv => whnf
  refine ⟨vp_in_nI (n := 4) (N := 6) (by decide) (by decide), 62, hR_at (i := 4) (by decide), ?_⟩
  conv => whnf
  refine ⟨trivial, c_scK4 ?_⟩
  conv => whnf
  refine ⟨by decide, ?_⟩
  conv => whnf
  exact ⟨trivial, h⟩
theorem c_give4 {E : pm_E} {Q : pm_Q} {x : zD} {m : List va_E} {nx sz : Int32} {f : Nat → zS} (hx : xP x = (f, nx, sz)) (hn : nx + 6 - 1 - (nx + 6 - 1) / 6 * 6 = nI 4) (h : Q none (mkG (sS (sP x (f, nI 4, sz - 1)) (f 4)) m)) : Sm E n_X5_giveBack 0 (pl_entry 2 [.ref 20, .ref 9], [], mkG x m, 0, 0) Q := by
  obtain ⟨x1, x2, x3, x4, x5, x6⟩ := x
  subst hx
  refine pm_go (aX5_giveBack E) 100 rfl ?_
  conv => whnf
  refine ⟨by decide, ?_⟩
  rw [hn]
  conv => whnf
  refine ⟨vp_in_nI (n := 4) (N := 6) (by decide) (by decide), 62, hR_at (i := 4) (by decide), ?_⟩
  conv => whnf
  refine ⟨trivial, c_scG4 (x := (x1, x2, x3, (f, nI 4, sz - 1), x5, x6)) ?_⟩
  conv => whnf
  exact ⟨trivial, h⟩
theorem c_keep5 {E : pm_E} {Q : pm_Q} {x : zD} {m : List va_E} {sz : Int32} {f : Nat → zS} (hx : xP x = (f, nI 5, sz)) (h : Q none (mkG (sP x (upS f 5 (xS x), nI 5 + 1 - (nI 5 + 1) / 6 * 6, if 6 < sz + 1 then 6 else sz + 1)) m)) : Sm E n_X5_keep 0 (pl_entry 2 [.ref 20, .ref 9], [], mkG x m, 0, 0) Q := by
  obtain ⟨x1, x2, x3, x4, x5, x6⟩ := x
  subst hx
  refine pm_go (aX5_keep E) 100 rfl ?_
  conv => whnf
  refine ⟨vp_in_nI (n := 5) (N := 6) (by decide) (by decide), 73, hR_at (i := 5) (by decide), ?_⟩
  conv => whnf
  refine ⟨trivial, c_scK5 ?_⟩
  conv => whnf
  refine ⟨by decide, ?_⟩
  conv => whnf
  exact ⟨trivial, h⟩
theorem c_give5 {E : pm_E} {Q : pm_Q} {x : zD} {m : List va_E} {nx sz : Int32} {f : Nat → zS} (hx : xP x = (f, nx, sz)) (hn : nx + 6 - 1 - (nx + 6 - 1) / 6 * 6 = nI 5) (h : Q none (mkG (sS (sP x (f, nI 5, sz - 1)) (f 5)) m)) : Sm E n_X5_giveBack 0 (pl_entry 2 [.ref 20, .ref 9], [], mkG x m, 0, 0) Q := by
  obtain ⟨x1, x2, x3, x4, x5, x6⟩ := x
  subst hx
  refine pm_go (aX5_giveBack E) 100 rfl ?_
  conv => whnf
  refine ⟨by decide, ?_⟩
  rw [hn]
  conv => whnf
  refine ⟨vp_in_nI (n := 5) (N := 6) (by decide) (by decide), 73, hR_at (i := 5) (by decide), ?_⟩
  conv => whnf
  refine ⟨trivial, c_scG5 (x := (x1, x2, x3, (f, nI 5, sz - 1), x5, x6)) ?_⟩
  conv => whnf
  exact ⟨trivial, h⟩

/-- the ring's place goes on by one, and back -/
theorem ring_next : ∀ i, i < 6 → nI i + 1 - (nI i + 1) / 6 * 6 = nI ((i + 1) % 6) := by decide +kernel
theorem ring_back : ∀ i, i < 6 → nI i + 6 - 1 - (nI i + 6 - 1) / 6 * 6 = nI ((i + 5) % 6) := by decide +kernel
theorem c_keep {E : pm_E} {Q : pm_Q} {x : zD} {m : List va_E} {i : Nat} {sz : Int32} {f : Nat → zS} (hx : xP x = (f, nI i, sz)) (hi : i < 6) (h : Q none (mkG (sP x (upS f i (xS x), nI ((i + 1) % 6), if 6 < sz + 1 then 6 else sz + 1)) m)) : Sm E n_X5_keep 0 (pl_entry 2 [.ref 20, .ref 9], [], mkG x m, 0, 0) Q := by
  rw [← ring_next i hi] at h
  match i, hi, hx, h with
  | 0, _, hx, h => exact c_keep0 hx h
  | 1, _, hx, h => exact c_keep1 hx h
  | 2, _, hx, h => exact c_keep2 hx h
  | 3, _, hx, h => exact c_keep3 hx h
  | 4, _, hx, h => exact c_keep4 hx h
  | 5, _, hx, h => exact c_keep5 hx h
theorem c_give {E : pm_E} {Q : pm_Q} {x : zD} {m : List va_E} {i : Nat} {sz : Int32} {f : Nat → zS} (hx : xP x = (f, nI i, sz)) (hi : i < 6) (h : Q none (mkG (sS (sP x (f, nI ((i + 5) % 6), sz - 1)) (f ((i + 5) % 6))) m)) : Sm E n_X5_giveBack 0 (pl_entry 2 [.ref 20, .ref 9], [], mkG x m, 0, 0) Q := by
  match i, hi, hx, h with
  | 0, _, hx, h => exact c_give5 hx (by decide) h
  | 1, _, hx, h => exact c_give0 hx (by decide) h
  | 2, _, hx, h => exact c_give1 hx (by decide) h
  | 3, _, hx, h => exact c_give2 hx (by decide) h
  | 4, _, hx, h => exact c_give3 hx (by decide) h
  | 5, _, hx, h => exact c_give4 hx (by decide) h
