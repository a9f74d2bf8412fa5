/-! ===== the reference: items of the text ===== -/
def pM3 (g : Nat → Int64) (j : Nat) (a b : Int64) : Nat → Int64 := vp_updL (vp_updL (vp_updL g (4 + 4 * j) 1) (4 + 4 * j + 1) a) (4 + 4 * j + 2) b
def pL4 (r : Nat → Int64) (a b c d : Int64) : Nat → Int64 := vp_updL (vp_updL (vp_updL (vp_updL r 0 a) 1 b) 2 c) 3 d
theorem m_putM {E : pm_E} {Q : pm_Q} {y : zD} {m : zN} {at' v : Int32} {g r : Nat → Int64} {j : Nat} {a b : Int64} (hv : v = nI j) (hj : j < 6) (h : Q none (mkH y (tQ m at' (pM3 g j a b) r))) : Sm E n_X9_putMaster 0 (pl_entry 6 [.ref 92, .int v, .long a, .long b], [], mkH y (tQ m at' g r), 0, 0) Q := by
  subst hv
  have c0 : ((4 : Int32) + 4 * nI j).toNatClampNeg = 4 + 4 * j := by rw [ix4]; exact cl (by omega)
  have c1 : ((4 : Int32) + 4 * nI j + 1).toNatClampNeg = 4 + 4 * j + 1 := by rw [show (1 : Int32) = nI 1 from rfl, ix4k]; exact cl (by omega)
  have c2 : ((4 : Int32) + 4 * nI j + 2).toNatClampNeg = 4 + 4 * j + 2 := by rw [show (2 : Int32) = nI 2 from rfl, ix4k]; exact cl (by omega)
  unfold pM3 at h
  rw [← c1, ← c2, ← c0] at h
  refine pm_go (aX9_putMaster E) 100 rfl ?_
  conv => whnf
  refine ⟨by rw [ix4]; exact inA (by omega) (by decide), ?_⟩
  conv => whnf
  refine ⟨by rw [show (1 : Int32) = nI 1 from rfl, ix4k]; exact inA (by omega) (by decide), ?_⟩
  conv => whnf
  refine ⟨by rw [show (2 : Int32) = nI 2 from rfl, ix4k]; exact inA (by omega) (by decide), ?_⟩
  conv => whnf
  refine ⟨trivial, ?_⟩
  exact h
theorem m_putL {E : pm_E} {Q : pm_Q} {y : zD} {m : zN} {at' : Int32} {g r : Nat → Int64} {a b c d : Int64} (h : Q none (mkH y (tQ m at' g (pL4 r a b c d)))) : Sm E n_X9_putLeap 0 (pl_entry 9 [.ref 92, .long a, .long b, .long c, .long d], [], mkH y (tQ m at' g r), 0, 0) Q := by
  refine pm_go (aX9_putLeap E) 100 rfl ?_
  conv => whnf
  refine ⟨inA (n := 0) (by decide) (by decide), ?_⟩
  conv => whnf
  refine ⟨inA (n := 1) (by decide) (by decide), ?_⟩
  conv => whnf
  refine ⟨inA (n := 2) (by decide) (by decide), ?_⟩
  conv => whnf
  refine ⟨inA (n := 3) (by decide) (by decide), ?_⟩
  conv => whnf
  refine ⟨trivial, ?_⟩
  exact h
theorem l5 {a : Int64} : (0 ≤ a ∧ a ≤ 5) ↔ okL a := by
  show _ ↔ (0 ≤ a ∧ a < 6)
  rw [Int64.le_iff_toInt_le (y := 5), Int64.lt_iff_toInt_lt (y := 6), show (5 : Int64).toInt = 5 by decide, show (6 : Int64).toInt = 6 by decide]
  constructor <;> intro h <;> exact ⟨h.1, by have := h.2; omega⟩
theorem okL_nI {a : Int64} (h : okL a) : ∃ j : Nat, j < 6 ∧ a = lN j ∧ a.toInt32 = nI j := by
  obtain ⟨j, hj, e⟩ := pk_lOf (x := a) (Int64.not_lt.mpr h.1)
  have h2 := h.2
  rw [e] at h2
  have := (pk_lLT (a := j) (b := 6) hj (by omega)).mp h2
  exact ⟨j, this, e, by rw [e]; exact lN_i j⟩
theorem rdM_all {c : Nat → Int32} {p p1 p1' p2 p2' p3 q1 q2 q3 : Nat} {V1 V2 V3 a b e : Int64} {s1 s2 : Int32} (n1 : numR c p p1 V1) (t1 : sgR c p1 44 s1 p1') (n2 : numR c p1' p2 V2) (t2 : sgR c p2 44 s2 p2') (n3 : numR c p2' p3 V3) (e1 : pNM c p 44 = some (q1, a)) (e2 : pNM c q1 44 = some (q2, b)) (e3 : pNM c q2 59 = some (q3, e)) (ok : okL a ∧ okSpan b e) : s1 = 1 ∧ s2 = 1 ∧ (0 ≤ V1 ∧ V1 ≤ 5) ∧ (0 ≤ V2 ∧ V2 ≤ 1000000000000) ∧ (V2 ≤ V3 ∧ V3 ≤ 1000000000000) := by
  rcases nm_ok n1 t1 with ⟨u1, w1⟩ | ⟨u1, _⟩
  · rw [e1] at u1
    cases u1
    rcases nm_ok n2 t2 with ⟨u2, w2⟩ | ⟨u2, _⟩
    · rw [e2] at u2
      cases u2
      obtain ⟨rfl, -, -⟩ := nm_num n3 e3
      exact ⟨w1, w2, l5.mpr ok.1, ⟨ok.2.1, Int64.le_trans ok.2.2.1 ok.2.2.2⟩, ok.2.2⟩
    · rw [e2] at u2
      cases u2
  · rw [e1] at u1
    cases u1
theorem neg1 {V : Int64} (h : 0 ≤ V) : ¬ V = -1 := fun z => absurd h (by rw [z]; decide)
theorem s_ne {s : Int32} {X : Prop} (h : s = 0 ∨ X) (n : ¬ s = 0) : X := h.resolve_left n
theorem m_rdM {E : pm_E} {Q : pm_Q} {T : zT} {y : zD} {m : zN} {n p : Nat} {g r : Nat → Int64} (hX : TX T m n) (hp : p ≤ n)
    (h1 : ∀ q1 q2 p3 j a b e, pNM (ch T) p 44 = some (q1, a) → pNM (ch T) q1 44 = some (q2, b) → numR (ch T) q2 p3 e → okL a → okSpan b e → q2 ≤ p3 → p3 ≤ n → a.toInt32 = nI j → j < 6 → Q (some (.int 1)) (mkH y (tQ m (nI p3) (pM3 g j b e) r)))
    (h0 : ∀ p', p' ≤ n → (∀ q1 q2 q3 a b e, pNM (ch T) p 44 = some (q1, a) → pNM (ch T) q1 44 = some (q2, b) → pNM (ch T) q2 59 = some (q3, e) → ¬ (okL a ∧ okSpan b e)) → Q (some (.int 0)) (mkH y (tQ m (nI p') g r))) : Sm E n_X9_readMaster 0 (pl_entry 9 [.ref 92], [], mkH y (tQ m (nI p) g r), 0, 0) Q := by
  refine pm_go (aX9_readMaster E) 200 rfl ?_
  conv => whnf
  refine ⟨trivial, m_num hX hp (fun p1 V1 l1 k1 n1 => ?_)⟩
  conv => whnf
  refine ⟨trivial, m_sign hX k1 (by decide) (fun s1 p1' l1' k1' t1 => ?_)⟩
  conv => whnf
  refine ⟨trivial, m_num hX k1' (fun p2 V2 l2 k2 n2 => ?_)⟩
  conv => whnf
  refine ⟨trivial, m_sign hX k2 (by decide) (fun s2 p2' l2' k2' t2 => ?_)⟩
  conv => whnf
  refine ⟨trivial, m_num hX k2' (fun p3 V3 l3 k3 n3 => ?_)⟩
  have all := fun {q1 q2 q3 : Nat} {a b e : Int64} => rdM_all (q1 := q1) (q2 := q2) (q3 := q3) (a := a) (b := b) (e := e) n1 t1 n2 t2 n3
  conv => whnf
  refine ⟨fun q => ?_, fun z1 => ?_⟩
  · conv => whnf
    exact ⟨rfl, h0 p3 k3 (fun q1 q2 q3 a b e e1 e2 e3 ok => absurd (show s1 = 0 from q) (by rw [(all e1 e2 e3 ok).1]; decide))⟩
  conv => whnf
  refine ⟨fun q => ?_, fun z2 => ?_⟩
  · conv => whnf
    exact ⟨rfl, h0 p3 k3 (fun q1 q2 q3 a b e e1 e2 e3 ok => absurd (show s2 = 0 from q) (by rw [(all e1 e2 e3 ok).2.1]; decide))⟩
  conv => whnf
  refine ⟨trivial, m_within (fun w1 => ?_) (fun w1 => ?_)⟩
  · conv => whnf
    refine ⟨fun z => absurd z (by decide), fun _ => ?_⟩
    conv => whnf
    refine ⟨trivial, m_within (fun w2 => ?_) (fun w2 => ?_)⟩
    · conv => whnf
      refine ⟨fun z => absurd z (by decide), fun _ => ?_⟩
      conv => whnf
      refine ⟨trivial, m_within (fun w3 => ?_) (fun w3 => ?_)⟩
      · have oL := l5.mp w1
        obtain ⟨j, hj, ea, ei⟩ := okL_nI oL
        conv => whnf
        refine ⟨fun _ => ?_, fun z => absurd z (by decide)⟩
        conv => whnf
        refine ⟨trivial, m_putM ei hj ?_⟩
        conv => whnf
        refine ⟨rfl, ?_⟩
        rcases nm_ok n1 t1 with ⟨u1, -⟩ | ⟨_, u1⟩
        · rcases nm_ok n2 t2 with ⟨u2, -⟩ | ⟨_, u2⟩
          · exact h1 _ _ _ j _ _ _ u1 u2 n3 oL ⟨w2.1, w3⟩ l3 k3 ei hj
          · exact absurd (s_ne u2 z2) (neg1 w2.1)
        · exact absurd (s_ne u1 z1) (neg1 w1.1)
      · conv => whnf
        refine ⟨fun z => absurd rfl z, fun _ => ?_⟩
        conv => whnf
        exact ⟨rfl, h0 p3 k3 (fun q1 q2 q3 a b e e1 e2 e3 ok => w3 (all e1 e2 e3 ok).2.2.2.2)⟩
    · conv => whnf
      refine ⟨fun _ => ?_, fun z => absurd rfl z⟩
      conv => whnf
      exact ⟨rfl, h0 p3 k3 (fun q1 q2 q3 a b e e1 e2 e3 ok => w2 (all e1 e2 e3 ok).2.2.2.1)⟩
  · conv => whnf
    refine ⟨fun _ => ?_, fun z => absurd rfl z⟩
    conv => whnf
    exact ⟨rfl, h0 p3 k3 (fun q1 q2 q3 a b e e1 e2 e3 ok => w1 (all e1 e2 e3 ok).2.2.1)⟩
theorem lt_1 {a b : Int64} (h1 : 1 ≤ a) (h2 : a ≤ 1000) : a + 1 ≤ b ↔ a < b := by
  have h1 := Int64.le_iff_toInt_le.mp h1
  have h2 := Int64.le_iff_toInt_le.mp h2
  rw [show (1 : Int64).toInt = 1 by decide] at h1
  rw [show (1000 : Int64).toInt = 1000 by decide] at h2
  have e : (a + 1).toInt = a.toInt + 1 := i64_add (b := 1) (by rw [show (1 : Int64).toInt = 1 by decide]; omega) (by rw [show (1 : Int64).toInt = 1 by decide]; omega)
  rw [Int64.le_iff_toInt_le, Int64.lt_iff_toInt_lt, e]
  omega
theorem rdL_all {c : Nat → Int32} {p p1 p1' p2 p2' p3 p3' p4 q1 q2 q3 q4 : Nat} {V1 V2 V3 V4 a b e d : Int64} {s1 s2 s3 : Int32} (n1 : numR c p p1 V1) (t1 : sgR c p1 44 s1 p1') (n2 : numR c p1' p2 V2) (t2 : sgR c p2 44 s2 p2') (n3 : numR c p2' p3 V3) (t3 : sgR c p3 44 s3 p3') (n4 : numR c p3' p4 V4) (e1 : pNM c p 44 = some (q1, a)) (e2 : pNM c q1 44 = some (q2, b)) (e3 : pNM c q2 44 = some (q3, e)) (e4 : pNM c q3 59 = some (q4, d)) (ok : okLeap a b e d) : s1 = 1 ∧ s2 = 1 ∧ s3 = 1 ∧ (0 ≤ V1 ∧ V1 ≤ 1000000000000) ∧ (1 ≤ V2 ∧ V2 ≤ 1000) ∧ (V2 + 1 ≤ V3 ∧ V3 ≤ 1000000000) ∧ (0 ≤ V4 ∧ V4 ≤ 1) := by
  rcases nm_ok n1 t1 with ⟨u1, w1⟩ | ⟨u1, _⟩
  · rw [e1] at u1
    cases u1
    rcases nm_ok n2 t2 with ⟨u2, w2⟩ | ⟨u2, _⟩
    · rw [e2] at u2
      cases u2
      rcases nm_ok n3 t3 with ⟨u3, w3⟩ | ⟨u3, _⟩
      · rw [e3] at u3
        cases u3
        obtain ⟨rfl, -, -⟩ := nm_num n4 e4
        exact ⟨w1, w2, w3, ok.1, ok.2.1, ⟨(lt_1 ok.2.1.1 ok.2.1.2).mpr ok.2.2.1.1, ok.2.2.1.2⟩, ok.2.2.2⟩
      · rw [e3] at u3
        cases u3
    · rw [e2] at u2
      cases u2
  · rw [e1] at u1
    cases u1
theorem neg2 {V : Int64} (h : 1 ≤ V) : ¬ V = -1 := fun z => absurd h (by rw [z]; decide)
theorem m_rdL {E : pm_E} {Q : pm_Q} {T : zT} {y : zD} {m : zN} {n p : Nat} {g r : Nat → Int64} (hX : TX T m n) (hp : p ≤ n)
    (h1 : ∀ q1 q2 q3 p4 a b e d, pNM (ch T) p 44 = some (q1, a) → pNM (ch T) q1 44 = some (q2, b) → pNM (ch T) q2 44 = some (q3, e) → numR (ch T) q3 p4 d → okLeap a b e d → q3 ≤ p4 → p4 ≤ n → Q (some (.int 1)) (mkH y (tQ m (nI p4) g (pL4 r a b e d))))
    (h0 : ∀ p', p' ≤ n → (∀ q1 q2 q3 q4 a b e d, pNM (ch T) p 44 = some (q1, a) → pNM (ch T) q1 44 = some (q2, b) → pNM (ch T) q2 44 = some (q3, e) → pNM (ch T) q3 59 = some (q4, d) → ¬ okLeap a b e d) → Q (some (.int 0)) (mkH y (tQ m (nI p') g r))) : Sm E n_X9_readLeap 0 (pl_entry 12 [.ref 92], [], mkH y (tQ m (nI p) g r), 0, 0) Q := by
  refine pm_go (aX9_readLeap E) 200 rfl ?_
  conv => whnf
  refine ⟨trivial, m_num hX hp (fun p1 V1 l1 k1 n1 => ?_)⟩
  conv => whnf
  refine ⟨trivial, m_sign hX k1 (by decide) (fun s1 p1' l1' k1' t1 => ?_)⟩
  conv => whnf
  refine ⟨trivial, m_num hX k1' (fun p2 V2 l2 k2 n2 => ?_)⟩
  conv => whnf
  refine ⟨trivial, m_sign hX k2 (by decide) (fun s2 p2' l2' k2' t2 => ?_)⟩
  conv => whnf
  refine ⟨trivial, m_num hX k2' (fun p3 V3 l3 k3 n3 => ?_)⟩
  conv => whnf
  refine ⟨trivial, m_sign hX k3 (by decide) (fun s3 p3' l3' k3' t3 => ?_)⟩
  conv => whnf
  refine ⟨trivial, m_num hX k3' (fun p4 V4 l4 k4 n4 => ?_)⟩
  have all := fun {q1 q2 q3 q4 : Nat} {a b e d : Int64} => rdL_all (q1 := q1) (q2 := q2) (q3 := q3) (q4 := q4) (a := a) (b := b) (e := e) (d := d) n1 t1 n2 t2 n3 t3 n4
  conv => whnf
  refine ⟨fun q => ?_, fun z1 => ?_⟩
  · conv => whnf
    exact ⟨rfl, h0 p4 k4 (fun q1 q2 q3 q4 a b e d e1 e2 e3 e4 ok => absurd (show s1 = 0 from q) (by rw [(all e1 e2 e3 e4 ok).1]; decide))⟩
  conv => whnf
  refine ⟨fun q => ?_, fun z2 => ?_⟩
  · conv => whnf
    exact ⟨rfl, h0 p4 k4 (fun q1 q2 q3 q4 a b e d e1 e2 e3 e4 ok => absurd (show s2 = 0 from q) (by rw [(all e1 e2 e3 e4 ok).2.1]; decide))⟩
  conv => whnf
  refine ⟨fun q => ?_, fun z3 => ?_⟩
  · conv => whnf
    exact ⟨rfl, h0 p4 k4 (fun q1 q2 q3 q4 a b e d e1 e2 e3 e4 ok => absurd (show s3 = 0 from q) (by rw [(all e1 e2 e3 e4 ok).2.2.1]; decide))⟩
  conv => whnf
  refine ⟨trivial, m_within (fun w1 => ?_) (fun w1 => ?_)⟩
  · conv => whnf
    refine ⟨fun z => absurd z (by decide), fun _ => ?_⟩
    conv => whnf
    refine ⟨trivial, m_within (fun w2 => ?_) (fun w2 => ?_)⟩
    · conv => whnf
      refine ⟨fun z => absurd z (by decide), fun _ => ?_⟩
      conv => whnf
      refine ⟨trivial, m_within (fun w3 => ?_) (fun w3 => ?_)⟩
      · conv => whnf
        refine ⟨fun z => absurd z (by decide), fun _ => ?_⟩
        conv => whnf
        refine ⟨trivial, m_within (fun w4 => ?_) (fun w4 => ?_)⟩
        · conv => whnf
          refine ⟨fun _ => ?_, fun z => absurd z (by decide)⟩
          conv => whnf
          refine ⟨trivial, m_putL ?_⟩
          conv => whnf
          refine ⟨rfl, ?_⟩
          have w3' : V2 < V3 := (lt_1 w2.1 w2.2).mp w3.1
          rcases nm_ok n1 t1 with ⟨u1, -⟩ | ⟨_, u1⟩
          · rcases nm_ok n2 t2 with ⟨u2, -⟩ | ⟨_, u2⟩
            · rcases nm_ok n3 t3 with ⟨u3, -⟩ | ⟨_, u3⟩
              · exact h1 _ _ _ _ _ _ _ _ u1 u2 u3 n4 ⟨w1, w2, ⟨w3', w3.2⟩, w4⟩ l4 k4
              · exact absurd (s_ne u3 z3) (neg2 (Int64.le_trans w2.1 (Int64.le_of_lt w3')))
            · exact absurd (s_ne u2 z2) (neg2 w2.1)
          · exact absurd (s_ne u1 z1) (neg1 w1.1)
        · conv => whnf
          refine ⟨fun z => absurd rfl z, fun _ => ?_⟩
          conv => whnf
          exact ⟨rfl, h0 p4 k4 (fun q1 q2 q3 q4 a b e d e1 e2 e3 e4 ok => w4 (all e1 e2 e3 e4 ok).2.2.2.2.2.2)⟩
      · conv => whnf
        refine ⟨fun _ => ?_, fun z => absurd rfl z⟩
        conv => whnf
        exact ⟨rfl, h0 p4 k4 (fun q1 q2 q3 q4 a b e d e1 e2 e3 e4 ok => w3 (all e1 e2 e3 e4 ok).2.2.2.2.2.1)⟩
    · conv => whnf
      refine ⟨fun _ => ?_, fun z => absurd rfl z⟩
      conv => whnf
      exact ⟨rfl, h0 p4 k4 (fun q1 q2 q3 q4 a b e d e1 e2 e3 e4 ok => w2 (all e1 e2 e3 e4 ok).2.2.2.2.1)⟩
  · conv => whnf
    refine ⟨fun _ => ?_, fun z => absurd rfl z⟩
    conv => whnf
    exact ⟨rfl, h0 p4 k4 (fun q1 q2 q3 q4 a b e d e1 e2 e3 e4 ok => w1 (all e1 e2 e3 e4 ok).2.2.2.1)⟩
