/-! ===== the cells of the class and of the reference, by their places ===== -/
abbrev zM : Type := (Nat → Int64) × (Nat → Int64) × (Nat → Int32) × Int32 × Int32 × Int32
abbrev zC : Type := (Nat → Int32) × (Nat → Int32) × (Nat → Int64) × (Nat → Int32) × (Nat → Int32) × Int32 × Int32
abbrev zS : Type := zM × zC × Int32
abbrev zT : Type := (Nat → Int32) × Int32
abbrev zI : Type := (Nat → Int64) × Int32 × Int32
abbrev zP : Type := (Nat → zS) × Int32 × Int32
abbrev zA : Type := (Nat → Int64) × (Nat → Int64) × Int32 × Int32 × Int64
abbrev zL : Type := Int64 × Int64 × Int64 × Int64
abbrev zD : Type := zT × zI × zS × zP × zA × zL
abbrev zN : Type := (Nat → Int64) × (Nat → Int64) × Int32 × (Nat → Int32) × Int32 × Int32 × (Nat → Int64) × (Nat → Int64) × (Nat → Int64) × (Nat → Int64) × (Nat → Int64) × Int32 × Int32 × Int64 × Int64
abbrev eI (n : Nat) (f : Nat → Int32) : va_E := .inl (1, n, .inl f)
abbrev eC (n : Nat) (f : Nat → Int32) : va_E := .inl (0, n, .inl f)
abbrev eL (n : Nat) (f : Nat → Int64) : va_E := .inl (2, n, .inr (.inl f))
/-- the eleven cells of a state, the first of which is named by r -/
def hS (r : Nat) (s : zS) (k : List va_E) : List va_E :=
  .inr (6, [.ref (r + 1), .ref (r + 5), .int s.2.2]) ::
  .inr (4, [.ref (r + 2), .ref (r + 3), .ref (r + 4), .int s.1.2.2.2.1, .int s.1.2.2.2.2.1, .int s.1.2.2.2.2.2]) :: eL 6 s.1.1 :: eL 6 s.1.2.1 :: eI 6 s.1.2.2.1 ::
  .inr (1, [.ref (r + 6), .ref (r + 7), .ref (r + 8), .ref (r + 9), .ref (r + 10), .int s.2.1.2.2.2.2.2.1, .int s.2.1.2.2.2.2.2.2]) :: eI 16 s.2.1.1 :: eI 16 s.2.1.2.1 :: eL 16 s.2.1.2.2.1 :: eI 16 s.2.1.2.2.2.1 :: eI 16 s.2.1.2.2.2.2.1 :: k
def hM (m : zN) : List va_E :=
  [.inr (9, [.ref 93, .ref 94, .int m.2.2.1, .ref 95, .int m.2.2.2.2.1, .int m.2.2.2.2.2.1, .ref 96, .ref 97, .ref 98, .ref 99, .ref 100, .int m.2.2.2.2.2.2.2.2.2.2.2.1, .int m.2.2.2.2.2.2.2.2.2.2.2.2.1, .long m.2.2.2.2.2.2.2.2.2.2.2.2.2.1, .long m.2.2.2.2.2.2.2.2.2.2.2.2.2.2]),
   eL 108 m.1, eL 648 m.2.1, eI 200 m.2.2.2.1, eL 108 m.2.2.2.2.2.2.1, eL 4 m.2.2.2.2.2.2.2.1, eL 4 m.2.2.2.2.2.2.2.2.1, eL 6 m.2.2.2.2.2.2.2.2.2.1, eL 6 m.2.2.2.2.2.2.2.2.2.2.1]
def hR (j : Nat) : Option Nat := if j < 6 then some (18 + 11 * j + 4) else none
/-- all cells -/
def mkG (x : zD) (t : List va_E) : List va_E :=
  .inr (8, [.ref 5, .ref 7, .ref 9, .ref 20, .ref 88, .ref 91]) ::
  .inr (7, [.ref 6, .int x.1.2]) :: eC 200 x.1.1 ::
  .inr (2, [.ref 8, .int x.2.1.2.1, .int x.2.1.2.2]) :: eL 4 x.2.1.1 ::
  hS 9 x.2.2.1 (
  .inr (5, [.ref 21, .int x.2.2.2.1.2.1, .int x.2.2.2.1.2.2]) :: .inl (3, 6, .inr (.inr (.inr (.inr hR)))) ::
  hS 22 (x.2.2.2.1.1 0) (hS 33 (x.2.2.2.1.1 1) (hS 44 (x.2.2.2.1.1 2) (hS 55 (x.2.2.2.1.1 3) (hS 66 (x.2.2.2.1.1 4) (hS 77 (x.2.2.2.1.1 5) (
  .inr (0, [.ref 89, .ref 90, .int x.2.2.2.2.1.2.2.1, .int x.2.2.2.2.1.2.2.2.1, .long x.2.2.2.2.1.2.2.2.2]) :: eL 6 x.2.2.2.2.1.1 :: eL 6 x.2.2.2.2.1.2.1 ::
  .inr (3, [.long x.2.2.2.2.2.1, .long x.2.2.2.2.2.2.1, .long x.2.2.2.2.2.2.2.1, .long x.2.2.2.2.2.2.2.2]) :: t)))))))
abbrev mkH (x : zD) (m : zN) : List va_E := mkG x (hM m)
