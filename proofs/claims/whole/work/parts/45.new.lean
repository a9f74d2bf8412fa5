/-! ===== constructors ===== -/
abbrev s0 : zS := ((fun _ => 0, fun _ => 0, fun _ => 0, 0, 0, 1000), (fun _ => 0, fun _ => 0, fun _ => 0, fun _ => 0, fun _ => 0, 0, 0), 0)
theorem k_text {E : pm_E} {Q : pm_Q} {a0 : va_E} (h : Q none (a0 :: .inr (7, [.ref 6, .int 0]) :: eC 200 (fun _ => 0) :: [])) : Sm E n_X7_init 0 (pl_entry 1 [.ref 5], [], a0 :: .inr (7, [.null, .int 0]) :: [], 0, 0) Q := by
  refine pm_go (aX7_init E) 100 rfl ?_
  conv => whnf
  refine ⟨rfl, ?_⟩
  conv => whnf
  exact ⟨⟨rfl, rfl⟩, h⟩
theorem k_item {E : pm_E} {Q : pm_Q} {a0 a1 a2 : va_E} (h : Q none (a0 :: a1 :: a2 :: .inr (2, [.ref 8, .int 0, .int 0]) :: eL 4 (fun _ => 0) :: [])) : Sm E n_X2_init 0 (pl_entry 1 [.ref 7], [], a0 :: a1 :: a2 :: .inr (2, [.null, .int 0, .int 0]) :: [], 0, 0) Q := by
  refine pm_go (aX2_init E) 100 rfl ?_
  conv => whnf
  refine ⟨rfl, ?_⟩
  conv => whnf
  refine ⟨pk_charN (q := 0) (by decide), ?_⟩
  conv => whnf
  exact ⟨⟨rfl, rfl⟩, h⟩
theorem k_mast9 {E : pm_E} {Q : pm_Q} {a0 a1 a2 a3 a4 a5 : va_E} (h : Q none (a0 :: a1 :: a2 :: a3 :: a4 :: a5 :: .inr (4, [.ref 11, .ref 12, .ref 13, .int 0, .int 0, .int 1000]) :: eL 6 (fun _ => 0) :: eL 6 (fun _ => 0) :: eI 6 (fun _ => 0) :: [])) : Sm E n_X4_init 0 (pl_entry 1 [.ref 10], [], a0 :: a1 :: a2 :: a3 :: a4 :: a5 :: .inr (4, [.null, .null, .null, .int 0, .int 0, .int 0]) :: [], 0, 0) Q := by
  refine pm_go (aX4_init E) 100 rfl ?_
  conv => whnf
  refine ⟨rfl, ?_⟩
  conv => whnf
  refine ⟨rfl, ?_⟩
  conv => whnf
  refine ⟨rfl, ?_⟩
  conv => whnf
  exact ⟨⟨rfl, rfl⟩, h⟩
theorem k_comm9 {E : pm_E} {Q : pm_Q} {a0 a1 a2 a3 a4 a5 a6 a7 a8 a9 : va_E} (h : Q none (a0 :: a1 :: a2 :: a3 :: a4 :: a5 :: a6 :: a7 :: a8 :: a9 :: .inr (1, [.ref 15, .ref 16, .ref 17, .ref 18, .ref 19, .int 0, .int 0]) :: eI 16 (fun _ => 0) :: eI 16 (fun _ => 0) :: eL 16 (fun _ => 0) :: eI 16 (fun _ => 0) :: eI 16 (fun _ => 0) :: [])) : Sm E n_X1_init 0 (pl_entry 1 [.ref 14], [], a0 :: a1 :: a2 :: a3 :: a4 :: a5 :: a6 :: a7 :: a8 :: a9 :: .inr (1, [.null, .null, .null, .null, .null, .int 0, .int 0]) :: [], 0, 0) Q := by
  refine pm_go (aX1_init E) 100 rfl ?_
  conv => whnf
  refine ⟨rfl, ?_⟩
  conv => whnf
  refine ⟨rfl, ?_⟩
  conv => whnf
  refine ⟨rfl, ?_⟩
  conv => whnf
  refine ⟨rfl, ?_⟩
  conv => whnf
  refine ⟨rfl, ?_⟩
  conv => whnf
  exact ⟨⟨rfl, rfl⟩, h⟩
theorem k_stat9 {E : pm_E} {Q : pm_Q} {a0 a1 a2 a3 a4 : va_E} (h : Q none (a0 :: a1 :: a2 :: a3 :: a4 :: hS 9 s0 [])) : Sm E n_X6_init 0 (pl_entry 1 [.ref 9], [], a0 :: a1 :: a2 :: a3 :: a4 :: .inr (6, [.null, .null, .int 0]) :: [], 0, 0) Q := by
  refine pm_go (aX6_init E) 100 rfl ?_
  conv => whnf
  refine ⟨trivial, k_mast9 ?_⟩
  conv => whnf
  refine ⟨trivial, k_comm9 ?_⟩
  conv => whnf
  exact ⟨⟨rfl, rfl⟩, h⟩
theorem k_mast22 {E : pm_E} {Q : pm_Q} {a0 a1 a2 a3 a4 a5 a6 a7 a8 a9 a10 a11 a12 a13 a14 a15 a16 a17 a18 : va_E} (h : Q none (a0 :: a1 :: a2 :: a3 :: a4 :: a5 :: a6 :: a7 :: a8 :: a9 :: a10 :: a11 :: a12 :: a13 :: a14 :: a15 :: a16 :: a17 :: a18 :: .inr (4, [.ref 24, .ref 25, .ref 26, .int 0, .int 0, .int 1000]) :: eL 6 (fun _ => 0) :: eL 6 (fun _ => 0) :: eI 6 (fun _ => 0) :: [])) : Sm E n_X4_init 0 (pl_entry 1 [.ref 23], [], a0 :: a1 :: a2 :: a3 :: a4 :: a5 :: a6 :: a7 :: a8 :: a9 :: a10 :: a11 :: a12 :: a13 :: a14 :: a15 :: a16 :: a17 :: a18 :: .inr (4, [.null, .null, .null, .int 0, .int 0, .int 0]) :: [], 0, 0) Q := by
  refine pm_go (aX4_init E) 100 rfl ?_
  conv => whnf
  refine ⟨rfl, ?_⟩
  conv => whnf
  refine ⟨rfl, ?_⟩
  conv => whnf
  refine ⟨rfl, ?_⟩
  conv => whnf
  exact ⟨⟨rfl, rfl⟩, h⟩
theorem k_comm22 {E : pm_E} {Q : pm_Q} {a0 a1 a2 a3 a4 a5 a6 a7 a8 a9 a10 a11 a12 a13 a14 a15 a16 a17 a18 a19 a20 a21 a22 : va_E} (h : Q none (a0 :: a1 :: a2 :: a3 :: a4 :: a5 :: a6 :: a7 :: a8 :: a9 :: a10 :: a11 :: a12 :: a13 :: a14 :: a15 :: a16 :: a17 :: a18 :: a19 :: a20 :: a21 :: a22 :: .inr (1, [.ref 28, .ref 29, .ref 30, .ref 31, .ref 32, .int 0, .int 0]) :: eI 16 (fun _ => 0) :: eI 16 (fun _ => 0) :: eL 16 (fun _ => 0) :: eI 16 (fun _ => 0) :: eI 16 (fun _ => 0) :: [])) : Sm E n_X1_init 0 (pl_entry 1 [.ref 27], [], a0 :: a1 :: a2 :: a3 :: a4 :: a5 :: a6 :: a7 :: a8 :: a9 :: a10 :: a11 :: a12 :: a13 :: a14 :: a15 :: a16 :: a17 :: a18 :: a19 :: a20 :: a21 :: a22 :: .inr (1, [.null, .null, .null, .null, .null, .int 0, .int 0]) :: [], 0, 0) Q := by
  refine pm_go (aX1_init E) 100 rfl ?_
  conv => whnf
  refine ⟨rfl, ?_⟩
  conv => whnf
  refine ⟨rfl, ?_⟩
  conv => whnf
  refine ⟨rfl, ?_⟩
  conv => whnf
  refine ⟨rfl, ?_⟩
  conv => whnf
  refine ⟨rfl, ?_⟩
  conv => whnf
  exact ⟨⟨rfl, rfl⟩, h⟩
theorem k_stat22 {E : pm_E} {Q : pm_Q} {a0 a1 a2 a3 a4 a5 a6 a7 a8 a9 a10 a11 a12 a13 a14 a15 a16 a17 : va_E} (h : Q none (a0 :: a1 :: a2 :: a3 :: a4 :: a5 :: a6 :: a7 :: a8 :: a9 :: a10 :: a11 :: a12 :: a13 :: a14 :: a15 :: a16 :: a17 :: hS 22 s0 [])) : Sm E n_X6_init 0 (pl_entry 1 [.ref 22], [], a0 :: a1 :: a2 :: a3 :: a4 :: a5 :: a6 :: a7 :: a8 :: a9 :: a10 :: a11 :: a12 :: a13 :: a14 :: a15 :: a16 :: a17 :: .inr (6, [.null, .null, .int 0]) :: [], 0, 0) Q := by
  refine pm_go (aX6_init E) 100 rfl ?_
  conv => whnf
  refine ⟨trivial, k_mast22 ?_⟩
  conv => whnf
  refine ⟨trivial, k_comm22 ?_⟩
  conv => whnf
  exact ⟨⟨rfl, rfl⟩, h⟩
theorem k_mast33 {E : pm_E} {Q : pm_Q} {a0 a1 a2 a3 a4 a5 a6 a7 a8 a9 a10 a11 a12 a13 a14 a15 a16 a17 a18 a19 a20 a21 a22 a23 a24 a25 a26 a27 a28 a29 : va_E} (h : Q none (a0 :: a1 :: a2 :: a3 :: a4 :: a5 :: a6 :: a7 :: a8 :: a9 :: a10 :: a11 :: a12 :: a13 :: a14 :: a15 :: a16 :: a17 :: a18 :: a19 :: a20 :: a21 :: a22 :: a23 :: a24 :: a25 :: a26 :: a27 :: a28 :: a29 :: .inr (4, [.ref 35, .ref 36, .ref 37, .int 0, .int 0, .int 1000]) :: eL 6 (fun _ => 0) :: eL 6 (fun _ => 0) :: eI 6 (fun _ => 0) :: [])) : Sm E n_X4_init 0 (pl_entry 1 [.ref 34], [], a0 :: a1 :: a2 :: a3 :: a4 :: a5 :: a6 :: a7 :: a8 :: a9 :: a10 :: a11 :: a12 :: a13 :: a14 :: a15 :: a16 :: a17 :: a18 :: a19 :: a20 :: a21 :: a22 :: a23 :: a24 :: a25 :: a26 :: a27 :: a28 :: a29 :: .inr (4, [.null, .null, .null, .int 0, .int 0, .int 0]) :: [], 0, 0) Q := by
  refine pm_go (aX4_init E) 100 rfl ?_
  conv => whnf
  refine ⟨rfl, ?_⟩
  conv => whnf
  refine ⟨rfl, ?_⟩
  conv => whnf
  refine ⟨rfl, ?_⟩
  conv => whnf
  exact ⟨⟨rfl, rfl⟩, h⟩
theorem k_comm33 {E : pm_E} {Q : pm_Q} {a0 a1 a2 a3 a4 a5 a6 a7 a8 a9 a10 a11 a12 a13 a14 a15 a16 a17 a18 a19 a20 a21 a22 a23 a24 a25 a26 a27 a28 a29 a30 a31 a32 a33 : va_E} (h : Q none (a0 :: a1 :: a2 :: a3 :: a4 :: a5 :: a6 :: a7 :: a8 :: a9 :: a10 :: a11 :: a12 :: a13 :: a14 :: a15 :: a16 :: a17 :: a18 :: a19 :: a20 :: a21 :: a22 :: a23 :: a24 :: a25 :: a26 :: a27 :: a28 :: a29 :: a30 :: a31 :: a32 :: a33 :: .inr (1, [.ref 39, .ref 40, .ref 41, .ref 42, .ref 43, .int 0, .int 0]) :: eI 16 (fun _ => 0) :: eI 16 (fun _ => 0) :: eL 16 (fun _ => 0) :: eI 16 (fun _ => 0) :: eI 16 (fun _ => 0) :: [])) : Sm E n_X1_init 0 (pl_entry 1 [.ref 38], [], a0 :: a1 :: a2 :: a3 :: a4 :: a5 :: a6 :: a7 :: a8 :: a9 :: a10 :: a11 :: a12 :: a13 :: a14 :: a15 :: a16 :: a17 :: a18 :: a19 :: a20 :: a21 :: a22 :: a23 :: a24 :: a25 :: a26 :: a27 :: a28 :: a29 :: a30 :: a31 :: a32 :: a33 :: .inr (1, [.null, .null, .null, .null, .null, .int 0, .int 0]) :: [], 0, 0) Q := by
  refine pm_go (aX1_init E) 100 rfl ?_
  conv => whnf
  refine ⟨rfl, ?_⟩
  conv => whnf
  refine ⟨rfl, ?_⟩
  conv => whnf
  refine ⟨rfl, ?_⟩
  conv => whnf
  refine ⟨rfl, ?_⟩
  conv => whnf
  refine ⟨rfl, ?_⟩
  conv => whnf
  exact ⟨⟨rfl, rfl⟩, h⟩
theorem k_stat33 {E : pm_E} {Q : pm_Q} {a0 a1 a2 a3 a4 a5 a6 a7 a8 a9 a10 a11 a12 a13 a14 a15 a16 a17 a18 a19 a20 a21 a22 a23 a24 a25 a26 a27 a28 : va_E} (h : Q none (a0 :: a1 :: a2 :: a3 :: a4 :: a5 :: a6 :: a7 :: a8 :: a9 :: a10 :: a11 :: a12 :: a13 :: a14 :: a15 :: a16 :: a17 :: a18 :: a19 :: a20 :: a21 :: a22 :: a23 :: a24 :: a25 :: a26 :: a27 :: a28 :: hS 33 s0 [])) : Sm E n_X6_init 0 (pl_entry 1 [.ref 33], [], a0 :: a1 :: a2 :: a3 :: a4 :: a5 :: a6 :: a7 :: a8 :: a9 :: a10 :: a11 :: a12 :: a13 :: a14 :: a15 :: a16 :: a17 :: a18 :: a19 :: a20 :: a21 :: a22 :: a23 :: a24 :: a25 :: a26 :: a27 :: a28 :: .inr (6, [.null, .null, .int 0]) :: [], 0, 0) Q := by
  refine pm_go (aX6_init E) 100 rfl ?_
  conv => whnf
  refine ⟨trivial, k_mast33 ?_⟩
  conv => whnf
  refine ⟨trivial, k_comm33 ?_⟩
  conv => whnf
  exact ⟨⟨rfl, rfl⟩, h⟩
theorem k_mast44 {E : pm_E} {Q : pm_Q} {a0 a1 a2 a3 a4 a5 a6 a7 a8 a9 a10 a11 a12 a13 a14 a15 a16 a17 a18 a19 a20 a21 a22 a23 a24 a25 a26 a27 a28 a29 a30 a31 a32 a33 a34 a35 a36 a37 a38 a39 a40 : va_E} (h : Q none (a0 :: a1 :: a2 :: a3 :: a4 :: a5 :: a6 :: a7 :: a8 :: a9 :: a10 :: a11 :: a12 :: a13 :: a14 :: a15 :: a16 :: a17 :: a18 :: a19 :: a20 :: a21 :: a22 :: a23 :: a24 :: a25 :: a26 :: a27 :: a28 :: a29 :: a30 :: a31 :: a32 :: a33 :: a34 :: a35 :: a36 :: a37 :: a38 :: a39 :: a40 :: .inr (4, [.ref 46, .ref 47, .ref 48, .int 0, .int 0, .int 1000]) :: eL 6 (fun _ => 0) :: eL 6 (fun _ => 0) :: eI 6 (fun _ => 0) :: [])) : Sm E n_X4_init 0 (pl_entry 1 [.ref 45], [], a0 :: a1 :: a2 :: a3 :: a4 :: a5 :: a6 :: a7 :: a8 :: a9 :: a10 :: a11 :: a12 :: a13 :: a14 :: a15 :: a16 :: a17 :: a18 :: a19 :: a20 :: a21 :: a22 :: a23 :: a24 :: a25 :: a26 :: a27 :: a28 :: a29 :: a30 :: a31 :: a32 :: a33 :: a34 :: a35 :: a36 :: a37 :: a38 :: a39 :: a40 :: .inr (4, [.null, .null, .null, .int 0, .int 0, .int 0]) :: [], 0, 0) Q := by
  refine pm_go (aX4_init E) 100 rfl ?_
  conv => whnf
  refine ⟨rfl, ?_⟩
  conv => whnf
  refine ⟨rfl, ?_⟩
  conv => whnf
  refine ⟨rfl, ?_⟩
  conv => whnf
  exact ⟨⟨rfl, rfl⟩, h⟩
theorem k_comm44 {E : pm_E} {Q : pm_Q} {a0 a1 a2 a3 a4 a5 a6 a7 a8 a9 a10 a11 a12 a13 a14 a15 a16 a17 a18 a19 a20 a21 a22 a23 a24 a25 a26 a27 a28 a29 a30 a31 a32 a33 a34 a35 a36 a37 a38 a39 a40 a41 a42 a43 a44 : va_E} (h : Q none (a0 :: a1 :: a2 :: a3 :: a4 :: a5 :: a6 :: a7 :: a8 :: a9 :: a10 :: a11 :: a12 :: a13 :: a14 :: a15 :: a16 :: a17 :: a18 :: a19 :: a20 :: a21 :: a22 :: a23 :: a24 :: a25 :: a26 :: a27 :: a28 :: a29 :: a30 :: a31 :: a32 :: a33 :: a34 :: a35 :: a36 :: a37 :: a38 :: a39 :: a40 :: a41 :: a42 :: a43 :: a44 :: .inr (1, [.ref 50, .ref 51, .ref 52, .ref 53, .ref 54, .int 0, .int 0]) :: eI 16 (fun _ => 0) :: eI 16 (fun _ => 0) :: eL 16 (fun _ => 0) :: eI 16 (fun _ => 0) :: eI 16 (fun _ => 0) :: [])) : Sm E n_X1_init 0 (pl_entry 1 [.ref 49], [], a0 :: a1 :: a2 :: a3 :: a4 :: a5 :: a6 :: a7 :: a8 :: a9 :: a10 :: a11 :: a12 :: a13 :: a14 :: a15 :: a16 :: a17 :: a18 :: a19 :: a20 :: a21 :: a22 :: a23 :: a24 :: a25 :: a26 :: a27 :: a28 :: a29 :: a30 :: a31 :: a32 :: a33 :: a34 :: a35 :: a36 :: a37 :: a38 :: a39 :: a40 :: a41 :: a42 :: a43 :: a44 :: .inr (1, [.null, .null, .null, .null, .null, .int 0, .int 0]) :: [], 0, 0) Q := by
  refine pm_go (aX1_init E) 100 rfl ?_
  conv => whnf
  refine ⟨rfl, ?_⟩
  conv => whnf
  refine ⟨rfl, ?_⟩
  conv => whnf
  refine ⟨rfl, ?_⟩
  conv => whnf
  refine ⟨rfl, ?_⟩
  conv => whnf
  refine ⟨rfl, ?_⟩
  conv => whnf
  exact ⟨⟨rfl, rfl⟩, h⟩
theorem k_stat44 {E : pm_E} {Q : pm_Q} {a0 a1 a2 a3 a4 a5 a6 a7 a8 a9 a10 a11 a12 a13 a14 a15 a16 a17 a18 a19 a20 a21 a22 a23 a24 a25 a26 a27 a28 a29 a30 a31 a32 a33 a34 a35 a36 a37 a38 a39 : va_E} (h : Q none (a0 :: a1 :: a2 :: a3 :: a4 :: a5 :: a6 :: a7 :: a8 :: a9 :: a10 :: a11 :: a12 :: a13 :: a14 :: a15 :: a16 :: a17 :: a18 :: a19 :: a20 :: a21 :: a22 :: a23 :: a24 :: a25 :: a26 :: a27 :: a28 :: a29 :: a30 :: a31 :: a32 :: a33 :: a34 :: a35 :: a36 :: a37 :: a38 :: a39 :: hS 44 s0 [])) : Sm E n_X6_init 0 (pl_entry 1 [.ref 44], [], a0 :: a1 :: a2 :: a3 :: a4 :: a5 :: a6 :: a7 :: a8 :: a9 :: a10 :: a11 :: a12 :: a13 :: a14 :: a15 :: a16 :: a17 :: a18 :: a19 :: a20 :: a21 :: a22 :: a23 :: a24 :: a25 :: a26 :: a27 :: a28 :: a29 :: a30 :: a31 :: a32 :: a33 :: a34 :: a35 :: a36 :: a37 :: a38 :: a39 :: .inr (6, [.null, .null, .int 0]) :: [], 0, 0) Q := by
  refine pm_go (aX6_init E) 100 rfl ?_
  conv => whnf
  refine ⟨trivial, k_mast44 ?_⟩
  conv => whnf
  refine ⟨trivial, k_comm44 ?_⟩
  conv => whnf
  exact ⟨⟨rfl, rfl⟩, h⟩
theorem k_mast55 {E : pm_E} {Q : pm_Q} {a0 a1 a2 a3 a4 a5 a6 a7 a8 a9 a10 a11 a12 a13 a14 a15 a16 a17 a18 a19 a20 a21 a22 a23 a24 a25 a26 a27 a28 a29 a30 a31 a32 a33 a34 a35 a36 a37 a38 a39 a40 a41 a42 a43 a44 a45 a46 a47 a48 a49 a50 a51 : va_E} (h : Q none (a0 :: a1 :: a2 :: a3 :: a4 :: a5 :: a6 :: a7 :: a8 :: a9 :: a10 :: a11 :: a12 :: a13 :: a14 :: a15 :: a16 :: a17 :: a18 :: a19 :: a20 :: a21 :: a22 :: a23 :: a24 :: a25 :: a26 :: a27 :: a28 :: a29 :: a30 :: a31 :: a32 :: a33 :: a34 :: a35 :: a36 :: a37 :: a38 :: a39 :: a40 :: a41 :: a42 :: a43 :: a44 :: a45 :: a46 :: a47 :: a48 :: a49 :: a50 :: a51 :: .inr (4, [.ref 57, .ref 58, .ref 59, .int 0, .int 0, .int 1000]) :: eL 6 (fun _ => 0) :: eL 6 (fun _ => 0) :: eI 6 (fun _ => 0) :: [])) : Sm E n_X4_init 0 (pl_entry 1 [.ref 56], [], a0 :: a1 :: a2 :: a3 :: a4 :: a5 :: a6 :: a7 :: a8 :: a9 :: a10 :: a11 :: a12 :: a13 :: a14 :: a15 :: a16 :: a17 :: a18 :: a19 :: a20 :: a21 :: a22 :: a23 :: a24 :: a25 :: a26 :: a27 :: a28 :: a29 :: a30 :: a31 :: a32 :: a33 :: a34 :: a35 :: a36 :: a37 :: a38 :: a39 :: a40 :: a41 :: a42 :: a43 :: a44 :: a45 :: a46 :: a47 :: a48 :: a49 :: a50 :: a51 :: .inr (4, [.null, .null, .null, .int 0, .int 0, .int 0]) :: [], 0, 0) Q := by
  refine pm_go (aX4_init E) 100 rfl ?_
  conv => whnf
  refine ⟨rfl, ?_⟩
  conv => whnf
  refine ⟨rfl, ?_⟩
  conv => whnf
  refine ⟨rfl, ?_⟩
  conv => whnf
  exact ⟨⟨rfl, rfl⟩, h⟩
theorem k_comm55 {E : pm_E} {Q : pm_Q} {a0 a1 a2 a3 a4 a5 a6 a7 a8 a9 a10 a11 a12 a13 a14 a15 a16 a17 a18 a19 a20 a21 a22 a23 a24 a25 a26 a27 a28 a29 a30 a31 a32 a33 a34 a35 a36 a37 a38 a39 a40 a41 a42 a43 a44 a45 a46 a47 a48 a49 a50 a51 a52 a53 a54 a55 : va_E} (h : Q none (a0 :: a1 :: a2 :: a3 :: a4 :: a5 :: a6 :: a7 :: a8 :: a9 :: a10 :: a11 :: a12 :: a13 :: a14 :: a15 :: a16 :: a17 :: a18 :: a19 :: a20 :: a21 :: a22 :: a23 :: a24 :: a25 :: a26 :: a27 :: a28 :: a29 :: a30 :: a31 :: a32 :: a33 :: a34 :: a35 :: a36 :: a37 :: a38 :: a39 :: a40 :: a41 :: a42 :: a43 :: a44 :: a45 :: a46 :: a47 :: a48 :: a49 :: a50 :: a51 :: a52 :: a53 :: a54 :: a55 :: .inr (1, [.ref 61, .ref 62, .ref 63, .ref 64, .ref 65, .int 0, .int 0]) :: eI 16 (fun _ => 0) :: eI 16 (fun _ => 0) :: eL 16 (fun _ => 0) :: eI 16 (fun _ => 0) :: eI 16 (fun _ => 0) :: [])) : Sm E n_X1_init 0 (pl_entry 1 [.ref 60], [], a0 :: a1 :: a2 :: a3 :: a4 :: a5 :: a6 :: a7 :: a8 :: a9 :: a10 :: a11 :: a12 :: a13 :: a14 :: a15 :: a16 :: a17 :: a18 :: a19 :: a20 :: a21 :: a22 :: a23 :: a24 :: a25 :: a26 :: a27 :: a28 :: a29 :: a30 :: a31 :: a32 :: a33 :: a34 :: a35 :: a36 :: a37 :: a38 :: a39 :: a40 :: a41 :: a42 :: a43 :: a44 :: a45 :: a46 :: a47 :: a48 :: a49 :: a50 :: a51 :: a52 :: a53 :: a54 :: a55 :: .inr (1, [.null, .null, .null, .null, .null, .int 0, .int 0]) :: [], 0, 0) Q := by
  refine pm_go (aX1_init E) 100 rfl ?_
  conv => whnf
  refine ⟨rfl, ?_⟩
  conv => whnf
  refine ⟨rfl, ?_⟩
  conv => whnf
  refine ⟨rfl, ?_⟩
  conv => whnf
  refine ⟨rfl, ?_⟩
  conv => whnf
  refine ⟨rfl, ?_⟩
  conv => whnf
  exact ⟨⟨rfl, rfl⟩, h⟩
theorem k_stat55 {E : pm_E} {Q : pm_Q} {a0 a1 a2 a3 a4 a5 a6 a7 a8 a9 a10 a11 a12 a13 a14 a15 a16 a17 a18 a19 a20 a21 a22 a23 a24 a25 a26 a27 a28 a29 a30 a31 a32 a33 a34 a35 a36 a37 a38 a39 a40 a41 a42 a43 a44 a45 a46 a47 a48 a49 a50 : va_E} (h : Q none (a0 :: a1 :: a2 :: a3 :: a4 :: a5 :: a6 :: a7 :: a8 :: a9 :: a10 :: a11 :: a12 :: a13 :: a14 :: a15 :: a16 :: a17 :: a18 :: a19 :: a20 :: a21 :: a22 :: a23 :: a24 :: a25 :: a26 :: a27 :: a28 :: a29 :: a30 :: a31 :: a32 :: a33 :: a34 :: a35 :: a36 :: a37 :: a38 :: a39 :: a40 :: a41 :: a42 :: a43 :: a44 :: a45 :: a46 :: a47 :: a48 :: a49 :: a50 :: hS 55 s0 [])) : Sm E n_X6_init 0 (pl_entry 1 [.ref 55], [], a0 :: a1 :: a2 :: a3 :: a4 :: a5 :: a6 :: a7 :: a8 :: a9 :: a10 :: a11 :: a12 :: a13 :: a14 :: a15 :: a16 :: a17 :: a18 :: a19 :: a20 :: a21 :: a22 :: a23 :: a24 :: a25 :: a26 :: a27 :: a28 :: a29 :: a30 :: a31 :: a32 :: a33 :: a34 :: a35 :: a36 :: a37 :: a38 :: a39 :: a40 :: a41 :: a42 :: a43 :: a44 :: a45 :: a46 :: a47 :: a48 :: a49 :: a50 :: .inr (6, [.null, .null, .int 0]) :: [], 0, 0) Q := by
  refine pm_go (aX6_init E) 100 rfl ?_
  conv => whnf
  refine ⟨trivial, k_mast55 ?_⟩
  conv => whnf
  refine ⟨trivial, k_comm55 ?_⟩
  conv => whnf
  exact ⟨⟨rfl, rfl⟩, h⟩
theorem k_mast66 {E : pm_E} {Q : pm_Q} {a0 a1 a2 a3 a4 a5 a6 a7 a8 a9 a10 a11 a12 a13 a14 a15 a16 a17 a18 a19 a20 a21 a22 a23 a24 a25 a26 a27 a28 a29 a30 a31 a32 a33 a34 a35 a36 a37 a38 a39 a40 a41 a42 a43 a44 a45 a46 a47 a48 a49 a50 a51 a52 a53 a54 a55 a56 a57 a58 a59 a60 a61 a62 : va_E} (h : Q none (a0 :: a1 :: a2 :: a3 :: a4 :: a5 :: a6 :: a7 :: a8 :: a9 :: a10 :: a11 :: a12 :: a13 :: a14 :: a15 :: a16 :: a17 :: a18 :: a19 :: a20 :: a21 :: a22 :: a23 :: a24 :: a25 :: a26 :: a27 :: a28 :: a29 :: a30 :: a31 :: a32 :: a33 :: a34 :: a35 :: a36 :: a37 :: a38 :: a39 :: a40 :: a41 :: a42 :: a43 :: a44 :: a45 :: a46 :: a47 :: a48 :: a49 :: a50 :: a51 :: a52 :: a53 :: a54 :: a55 :: a56 :: a57 :: a58 :: a59 :: a60 :: a61 :: a62 :: .inr (4, [.ref 68, .ref 69, .ref 70, .int 0, .int 0, .int 1000]) :: eL 6 (fun _ => 0) :: eL 6 (fun _ => 0) :: eI 6 (fun _ => 0) :: [])) : Sm E n_X4_init 0 (pl_entry 1 [.ref 67], [], a0 :: a1 :: a2 :: a3 :: a4 :: a5 :: a6 :: a7 :: a8 :: a9 :: a10 :: a11 :: a12 :: a13 :: a14 :: a15 :: a16 :: a17 :: a18 :: a19 :: a20 :: a21 :: a22 :: a23 :: a24 :: a25 :: a26 :: a27 :: a28 :: a29 :: a30 :: a31 :: a32 :: a33 :: a34 :: a35 :: a36 :: a37 :: a38 :: a39 :: a40 :: a41 :: a42 :: a43 :: a44 :: a45 :: a46 :: a47 :: a48 :: a49 :: a50 :: a51 :: a52 :: a53 :: a54 :: a55 :: a56 :: a57 :: a58 :: a59 :: a60 :: a61 :: a62 :: .inr (4, [.null, .null, .null, .int 0, .int 0, .int 0]) :: [], 0, 0) Q := by
  refine pm_go (aX4_init E) 100 rfl ?_
  conv => whnf
  refine ⟨rfl, ?_⟩
  conv => whnf
  refine ⟨rfl, ?_⟩
  conv => whnf
  refine ⟨rfl, ?_⟩
  conv => whnf
  exact ⟨⟨rfl, rfl⟩, h⟩
theorem k_comm66 {E : pm_E} {Q : pm_Q} {a0 a1 a2 a3 a4 a5 a6 a7 a8 a9 a10 a11 a12 a13 a14 a15 a16 a17 a18 a19 a20 a21 a22 a23 a24 a25 a26 a27 a28 a29 a30 a31 a32 a33 a34 a35 a36 a37 a38 a39 a40 a41 a42 a43 a44 a45 a46 a47 a48 a49 a50 a51 a52 a53 a54 a55 a56 a57 a58 a59 a60 a61 a62 a63 a64 a65 a66 : va_E} (h : Q none (a0 :: a1 :: a2 :: a3 :: a4 :: a5 :: a6 :: a7 :: a8 :: a9 :: a10 :: a11 :: a12 :: a13 :: a14 :: a15 :: a16 :: a17 :: a18 :: a19 :: a20 :: a21 :: a22 :: a23 :: a24 :: a25 :: a26 :: a27 :: a28 :: a29 :: a30 :: a31 :: a32 :: a33 :: a34 :: a35 :: a36 :: a37 :: a38 :: a39 :: a40 :: a41 :: a42 :: a43 :: a44 :: a45 :: a46 :: a47 :: a48 :: a49 :: a50 :: a51 :: a52 :: a53 :: a54 :: a55 :: a56 :: a57 :: a58 :: a59 :: a60 :: a61 :: a62 :: a63 :: a64 :: a65 :: a66 :: .inr (1, [.ref 72, .ref 73, .ref 74, .ref 75, .ref 76, .int 0, .int 0]) :: eI 16 (fun _ => 0) :: eI 16 (fun _ => 0) :: eL 16 (fun _ => 0) :: eI 16 (fun _ => 0) :: eI 16 (fun _ => 0) :: [])) : Sm E n_X1_init 0 (pl_entry 1 [.ref 71], [], a0 :: a1 :: a2 :: a3 :: a4 :: a5 :: a6 :: a7 :: a8 :: a9 :: a10 :: a11 :: a12 :: a13 :: a14 :: a15 :: a16 :: a17 :: a18 :: a19 :: a20 :: a21 :: a22 :: a23 :: a24 :: a25 :: a26 :: a27 :: a28 :: a29 :: a30 :: a31 :: a32 :: a33 :: a34 :: a35 :: a36 :: a37 :: a38 :: a39 :: a40 :: a41 :: a42 :: a43 :: a44 :: a45 :: a46 :: a47 :: a48 :: a49 :: a50 :: a51 :: a52 :: a53 :: a54 :: a55 :: a56 :: a57 :: a58 :: a59 :: a60 :: a61 :: a62 :: a63 :: a64 :: a65 :: a66 :: .inr (1, [.null, .null, .null, .null, .null, .int 0, .int 0]) :: [], 0, 0) Q := by
  refine pm_go (aX1_init E) 100 rfl ?_
  conv => whnf
  refine ⟨rfl, ?_⟩
  conv => whnf
  refine ⟨rfl, ?_⟩
  conv => whnf
  refine ⟨rfl, ?_⟩
  conv => whnf
  refine ⟨rfl, ?_⟩
  conv => whnf
  refine ⟨rfl, ?_⟩
  conv => whnf
  exact ⟨⟨rfl, rfl⟩, h⟩
theorem k_stat66 {E : pm_E} {Q : pm_Q} {a0 a1 a2 a3 a4 a5 a6 a7 a8 a9 a10 a11 a12 a13 a14 a15 a16 a17 a18 a19 a20 a21 a22 a23 a24 a25 a26 a27 a28 a29 a30 a31 a32 a33 a34 a35 a36 a37 a38 a39 a40 a41 a42 a43 a44 a45 a46 a47 a48 a49 a50 a51 a52 a53 a54 a55 a56 a57 a58 a59 a60 a61 : va_E} (h : Q none (a0 :: a1 :: a2 :: a3 :: a4 :: a5 :: a6 :: a7 :: a8 :: a9 :: a10 :: a11 :: a12 :: a13 :: a14 :: a15 :: a16 :: a17 :: a18 :: a19 :: a20 :: a21 :: a22 :: a23 :: a24 :: a25 :: a26 :: a27 :: a28 :: a29 :: a30 :: a31 :: a32 :: a33 :: a34 :: a35 :: a36 :: a37 :: a38 :: a39 :: a40 :: a41 :: a42 :: a43 :: a44 :: a45 :: a46 :: a47 :: a48 :: a49 :: a50 :: a51 :: a52 :: a53 :: a54 :: a55 :: a56 :: a57 :: a58 :: a59 :: a60 :: a61 :: hS 66 s0 [])) : Sm E n_X6_init 0 (pl_entry 1 [.ref 66], [], a0 :: a1 :: a2 :: a3 :: a4 :: a5 :: a6 :: a7 :: a8 :: a9 :: a10 :: a11 :: a12 :: a13 :: a14 :: a15 :: a16 :: a17 :: a18 :: a19 :: a20 :: a21 :: a22 :: a23 :: a24 :: a25 :: a26 :: a27 :: a28 :: a29 :: a30 :: a31 :: a32 :: a33 :: a34 :: a35 :: a36 :: a37 :: a38 :: a39 :: a40 :: a41 :: a42 :: a43 :: a44 :: a45 :: a46 :: a47 :: a48 :: a49 :: a50 :: a51 :: a52 :: a53 :: a54 :: a55 :: a56 :: a57 :: a58 :: a59 :: a60 :: a61 :: .inr (6, [.null, .null, .int 0]) :: [], 0, 0) Q := by
  refine pm_go (aX6_init E) 100 rfl ?_
  conv => whnf
  refine ⟨trivial, k_mast66 ?_⟩
  conv => whnf
  refine ⟨trivial, k_comm66 ?_⟩
  conv => whnf
  exact ⟨⟨rfl, rfl⟩, h⟩
theorem k_mast77 {E : pm_E} {Q : pm_Q} {a0 a1 a2 a3 a4 a5 a6 a7 a8 a9 a10 a11 a12 a13 a14 a15 a16 a17 a18 a19 a20 a21 a22 a23 a24 a25 a26 a27 a28 a29 a30 a31 a32 a33 a34 a35 a36 a37 a38 a39 a40 a41 a42 a43 a44 a45 a46 a47 a48 a49 a50 a51 a52 a53 a54 a55 a56 a57 a58 a59 a60 a61 a62 a63 a64 a65 a66 a67 a68 a69 a70 a71 a72 a73 : va_E} (h : Q none (a0 :: a1 :: a2 :: a3 :: a4 :: a5 :: a6 :: a7 :: a8 :: a9 :: a10 :: a11 :: a12 :: a13 :: a14 :: a15 :: a16 :: a17 :: a18 :: a19 :: a20 :: a21 :: a22 :: a23 :: a24 :: a25 :: a26 :: a27 :: a28 :: a29 :: a30 :: a31 :: a32 :: a33 :: a34 :: a35 :: a36 :: a37 :: a38 :: a39 :: a40 :: a41 :: a42 :: a43 :: a44 :: a45 :: a46 :: a47 :: a48 :: a49 :: a50 :: a51 :: a52 :: a53 :: a54 :: a55 :: a56 :: a57 :: a58 :: a59 :: a60 :: a61 :: a62 :: a63 :: a64 :: a65 :: a66 :: a67 :: a68 :: a69 :: a70 :: a71 :: a72 :: a73 :: .inr (4, [.ref 79, .ref 80, .ref 81, .int 0, .int 0, .int 1000]) :: eL 6 (fun _ => 0) :: eL 6 (fun _ => 0) :: eI 6 (fun _ => 0) :: [])) : Sm E n_X4_init 0 (pl_entry 1 [.ref 78], [], a0 :: a1 :: a2 :: a3 :: a4 :: a5 :: a6 :: a7 :: a8 :: a9 :: a10 :: a11 :: a12 :: a13 :: a14 :: a15 :: a16 :: a17 :: a18 :: a19 :: a20 :: a21 :: a22 :: a23 :: a24 :: a25 :: a26 :: a27 :: a28 :: a29 :: a30 :: a31 :: a32 :: a33 :: a34 :: a35 :: a36 :: a37 :: a38 :: a39 :: a40 :: a41 :: a42 :: a43 :: a44 :: a45 :: a46 :: a47 :: a48 :: a49 :: a50 :: a51 :: a52 :: a53 :: a54 :: a55 :: a56 :: a57 :: a58 :: a59 :: a60 :: a61 :: a62 :: a63 :: a64 :: a65 :: a66 :: a67 :: a68 :: a69 :: a70 :: a71 :: a72 :: a73 :: .inr (4, [.null, .null, .null, .int 0, .int 0, .int 0]) :: [], 0, 0) Q := by
  refine pm_go (aX4_init E) 100 rfl ?_
  conv => whnf
  refine ⟨rfl, ?_⟩
  conv => whnf
  refine ⟨rfl, ?_⟩
  conv => whnf
  refine ⟨rfl, ?_⟩
  conv => whnf
  exact ⟨⟨rfl, rfl⟩, h⟩
theorem k_comm77 {E : pm_E} {Q : pm_Q} {a0 a1 a2 a3 a4 a5 a6 a7 a8 a9 a10 a11 a12 a13 a14 a15 a16 a17 a18 a19 a20 a21 a22 a23 a24 a25 a26 a27 a28 a29 a30 a31 a32 a33 a34 a35 a36 a37 a38 a39 a40 a41 a42 a43 a44 a45 a46 a47 a48 a49 a50 a51 a52 a53 a54 a55 a56 a57 a58 a59 a60 a61 a62 a63 a64 a65 a66 a67 a68 a69 a70 a71 a72 a73 a74 a75 a76 a77 : va_E} (h : Q none (a0 :: a1 :: a2 :: a3 :: a4 :: a5 :: a6 :: a7 :: a8 :: a9 :: a10 :: a11 :: a12 :: a13 :: a14 :: a15 :: a16 :: a17 :: a18 :: a19 :: a20 :: a21 :: a22 :: a23 :: a24 :: a25 :: a26 :: a27 :: a28 :: a29 :: a30 :: a31 :: a32 :: a33 :: a34 :: a35 :: a36 :: a37 :: a38 :: a39 :: a40 :: a41 :: a42 :: a43 :: a44 :: a45 :: a46 :: a47 :: a48 :: a49 :: a50 :: a51 :: a52 :: a53 :: a54 :: a55 :: a56 :: a57 :: a58 :: a59 :: a60 :: a61 :: a62 :: a63 :: a64 :: a65 :: a66 :: a67 :: a68 :: a69 :: a70 :: a71 :: a72 :: a73 :: a74 :: a75 :: a76 :: a77 :: .inr (1, [.ref 83, .ref 84, .ref 85, .ref 86, .ref 87, .int 0, .int 0]) :: eI 16 (fun _ => 0) :: eI 16 (fun _ => 0) :: eL 16 (fun _ => 0) :: eI 16 (fun _ => 0) :: eI 16 (fun _ => 0) :: [])) : Sm E n_X1_init 0 (pl_entry 1 [.ref 82], [], a0 :: a1 :: a2 :: a3 :: a4 :: a5 :: a6 :: a7 :: a8 :: a9 :: a10 :: a11 :: a12 :: a13 :: a14 :: a15 :: a16 :: a17 :: a18 :: a19 :: a20 :: a21 :: a22 :: a23 :: a24 :: a25 :: a26 :: a27 :: a28 :: a29 :: a30 :: a31 :: a32 :: a33 :: a34 :: a35 :: a36 :: a37 :: a38 :: a39 :: a40 :: a41 :: a42 :: a43 :: a44 :: a45 :: a46 :: a47 :: a48 :: a49 :: a50 :: a51 :: a52 :: a53 :: a54 :: a55 :: a56 :: a57 :: a58 :: a59 :: a60 :: a61 :: a62 :: a63 :: a64 :: a65 :: a66 :: a67 :: a68 :: a69 :: a70 :: a71 :: a72 :: a73 :: a74 :: a75 :: a76 :: a77 :: .inr (1, [.null, .null, .null, .null, .null, .int 0, .int 0]) :: [], 0, 0) Q := by
  refine pm_go (aX1_init E) 100 rfl ?_
  conv => whnf
  refine ⟨rfl, ?_⟩
  conv => whnf
  refine ⟨rfl, ?_⟩
  conv => whnf
  refine ⟨rfl, ?_⟩
  conv => whnf
  refine ⟨rfl, ?_⟩
  conv => whnf
  refine ⟨rfl, ?_⟩
  conv => whnf
  exact ⟨⟨rfl, rfl⟩, h⟩
theorem k_stat77 {E : pm_E} {Q : pm_Q} {a0 a1 a2 a3 a4 a5 a6 a7 a8 a9 a10 a11 a12 a13 a14 a15 a16 a17 a18 a19 a20 a21 a22 a23 a24 a25 a26 a27 a28 a29 a30 a31 a32 a33 a34 a35 a36 a37 a38 a39 a40 a41 a42 a43 a44 a45 a46 a47 a48 a49 a50 a51 a52 a53 a54 a55 a56 a57 a58 a59 a60 a61 a62 a63 a64 a65 a66 a67 a68 a69 a70 a71 a72 : va_E} (h : Q none (a0 :: a1 :: a2 :: a3 :: a4 :: a5 :: a6 :: a7 :: a8 :: a9 :: a10 :: a11 :: a12 :: a13 :: a14 :: a15 :: a16 :: a17 :: a18 :: a19 :: a20 :: a21 :: a22 :: a23 :: a24 :: a25 :: a26 :: a27 :: a28 :: a29 :: a30 :: a31 :: a32 :: a33 :: a34 :: a35 :: a36 :: a37 :: a38 :: a39 :: a40 :: a41 :: a42 :: a43 :: a44 :: a45 :: a46 :: a47 :: a48 :: a49 :: a50 :: a51 :: a52 :: a53 :: a54 :: a55 :: a56 :: a57 :: a58 :: a59 :: a60 :: a61 :: a62 :: a63 :: a64 :: a65 :: a66 :: a67 :: a68 :: a69 :: a70 :: a71 :: a72 :: hS 77 s0 [])) : Sm E n_X6_init 0 (pl_entry 1 [.ref 77], [], a0 :: a1 :: a2 :: a3 :: a4 :: a5 :: a6 :: a7 :: a8 :: a9 :: a10 :: a11 :: a12 :: a13 :: a14 :: a15 :: a16 :: a17 :: a18 :: a19 :: a20 :: a21 :: a22 :: a23 :: a24 :: a25 :: a26 :: a27 :: a28 :: a29 :: a30 :: a31 :: a32 :: a33 :: a34 :: a35 :: a36 :: a37 :: a38 :: a39 :: a40 :: a41 :: a42 :: a43 :: a44 :: a45 :: a46 :: a47 :: a48 :: a49 :: a50 :: a51 :: a52 :: a53 :: a54 :: a55 :: a56 :: a57 :: a58 :: a59 :: a60 :: a61 :: a62 :: a63 :: a64 :: a65 :: a66 :: a67 :: a68 :: a69 :: a70 :: a71 :: a72 :: .inr (6, [.null, .null, .int 0]) :: [], 0, 0) Q := by
  refine pm_go (aX6_init E) 100 rfl ?_
  conv => whnf
  refine ⟨trivial, k_mast77 ?_⟩
  conv => whnf
  refine ⟨trivial, k_comm77 ?_⟩
  conv => whnf
  exact ⟨⟨rfl, rfl⟩, h⟩
theorem k_past6 {E : pm_E} {Q : pm_Q} {F : Nat → Option Nat} {a0 a1 a2 a3 a4 a5 a6 a7 a8 a9 a10 a11 a12 a13 a14 a15 : va_E} (h : Q none (a0 :: a1 :: a2 :: a3 :: a4 :: a5 :: a6 :: a7 :: a8 :: a9 :: a10 :: a11 :: a12 :: a13 :: a14 :: a15 :: .inr (5, [.ref 21, .int 0, .int 0]) :: .inl (3, 6, .inr (.inr (.inr (.inr (F))))) :: hS 22 s0 (hS 33 s0 (hS 44 s0 (hS 55 s0 (hS 66 s0 (hS 77 s0 ([])))))))) : Sm E n_X5_init 25 ([some (.ref 20), some (.int (nI 6))], [], a0 :: a1 :: a2 :: a3 :: a4 :: a5 :: a6 :: a7 :: a8 :: a9 :: a10 :: a11 :: a12 :: a13 :: a14 :: a15 :: .inr (5, [.ref 21, .int 0, .int 0]) :: .inl (3, 6, .inr (.inr (.inr (.inr (F))))) :: hS 22 s0 (hS 33 s0 (hS 44 s0 (hS 55 s0 (hS 66 s0 (hS 77 s0 ([])))))), 67, 690) Q := by
  refine pm_lp (aX5_init E) 100 25 rfl ?_
  conv => whnf
  refine ⟨fun _ => ?_, fun q => absurd (show (6 : Int32) ≤ nI 6 by decide) q⟩
  conv => whnf
  exact ⟨⟨rfl, rfl⟩, h⟩
theorem k_past5 {E : pm_E} {Q : pm_Q} {F : Nat → Option Nat} {a0 a1 a2 a3 a4 a5 a6 a7 a8 a9 a10 a11 a12 a13 a14 a15 : va_E} (h : Q none (a0 :: a1 :: a2 :: a3 :: a4 :: a5 :: a6 :: a7 :: a8 :: a9 :: a10 :: a11 :: a12 :: a13 :: a14 :: a15 :: .inr (5, [.ref 21, .int 0, .int 0]) :: .inl (3, 6, .inr (.inr (.inr (.inr (va_up (F) (nI 5).toNatClampNeg (some 77)))))) :: hS 22 s0 (hS 33 s0 (hS 44 s0 (hS 55 s0 (hS 66 s0 (hS 77 s0 ([])))))))) : Sm E n_X5_init 25 ([some (.ref 20), some (.int (nI 5))], [], a0 :: a1 :: a2 :: a3 :: a4 :: a5 :: a6 :: a7 :: a8 :: a9 :: a10 :: a11 :: a12 :: a13 :: a14 :: a15 :: .inr (5, [.ref 21, .int 0, .int 0]) :: .inl (3, 6, .inr (.inr (.inr (.inr (F))))) :: hS 22 s0 (hS 33 s0 (hS 44 s0 (hS 55 s0 (hS 66 s0 ([]))))), 56, 576) Q := by
  have nx := k_past6 (E := E) (F := va_up F (nI 5).toNatClampNeg (some 77)) h
  rw [show nI 6 = nI 5 + 1 by decide] at nx
  refine pm_lp (aX5_init E) 100 25 rfl ?_
  conv => whnf
  refine ⟨fun q => absurd (show (6 : Int32) ≤ nI 5 from q) (by decide), fun _ => ?_⟩
  conv => whnf
  refine ⟨trivial, k_stat77 ?_⟩
  conv => whnf
  refine ⟨vp_in_nI (n := 5) (by decide) (by decide), ?_⟩
  conv => whnf
  refine ⟨trivial, ?_⟩
  exact nx
theorem k_past4 {E : pm_E} {Q : pm_Q} {F : Nat → Option Nat} {a0 a1 a2 a3 a4 a5 a6 a7 a8 a9 a10 a11 a12 a13 a14 a15 : va_E} (h : Q none (a0 :: a1 :: a2 :: a3 :: a4 :: a5 :: a6 :: a7 :: a8 :: a9 :: a10 :: a11 :: a12 :: a13 :: a14 :: a15 :: .inr (5, [.ref 21, .int 0, .int 0]) :: .inl (3, 6, .inr (.inr (.inr (.inr (va_up (va_up (F) (nI 4).toNatClampNeg (some 66)) (nI 5).toNatClampNeg (some 77)))))) :: hS 22 s0 (hS 33 s0 (hS 44 s0 (hS 55 s0 (hS 66 s0 (hS 77 s0 ([])))))))) : Sm E n_X5_init 25 ([some (.ref 20), some (.int (nI 4))], [], a0 :: a1 :: a2 :: a3 :: a4 :: a5 :: a6 :: a7 :: a8 :: a9 :: a10 :: a11 :: a12 :: a13 :: a14 :: a15 :: .inr (5, [.ref 21, .int 0, .int 0]) :: .inl (3, 6, .inr (.inr (.inr (.inr (F))))) :: hS 22 s0 (hS 33 s0 (hS 44 s0 (hS 55 s0 ([])))), 45, 462) Q := by
  have nx := k_past5 (E := E) (F := va_up F (nI 4).toNatClampNeg (some 66)) h
  rw [show nI 5 = nI 4 + 1 by decide] at nx
  refine pm_lp (aX5_init E) 100 25 rfl ?_
  conv => whnf
  refine ⟨fun q => absurd (show (6 : Int32) ≤ nI 4 from q) (by decide), fun _ => ?_⟩
  conv => whnf
  refine ⟨trivial, k_stat66 ?_⟩
  conv => whnf
  refine ⟨vp_in_nI (n := 4) (by decide) (by decide), ?_⟩
  conv => whnf
  refine ⟨trivial, ?_⟩
  exact nx
theorem k_past3 {E : pm_E} {Q : pm_Q} {F : Nat → Option Nat} {a0 a1 a2 a3 a4 a5 a6 a7 a8 a9 a10 a11 a12 a13 a14 a15 : va_E} (h : Q none (a0 :: a1 :: a2 :: a3 :: a4 :: a5 :: a6 :: a7 :: a8 :: a9 :: a10 :: a11 :: a12 :: a13 :: a14 :: a15 :: .inr (5, [.ref 21, .int 0, .int 0]) :: .inl (3, 6, .inr (.inr (.inr (.inr (va_up (va_up (va_up (F) (nI 3).toNatClampNeg (some 55)) (nI 4).toNatClampNeg (some 66)) (nI 5).toNatClampNeg (some 77)))))) :: hS 22 s0 (hS 33 s0 (hS 44 s0 (hS 55 s0 (hS 66 s0 (hS 77 s0 ([])))))))) : Sm E n_X5_init 25 ([some (.ref 20), some (.int (nI 3))], [], a0 :: a1 :: a2 :: a3 :: a4 :: a5 :: a6 :: a7 :: a8 :: a9 :: a10 :: a11 :: a12 :: a13 :: a14 :: a15 :: .inr (5, [.ref 21, .int 0, .int 0]) :: .inl (3, 6, .inr (.inr (.inr (.inr (F))))) :: hS 22 s0 (hS 33 s0 (hS 44 s0 ([]))), 34, 348) Q := by
  have nx := k_past4 (E := E) (F := va_up F (nI 3).toNatClampNeg (some 55)) h
  rw [show nI 4 = nI 3 + 1 by decide] at nx
  refine pm_lp (aX5_init E) 100 25 rfl ?_
  conv => whnf
  refine ⟨fun q => absurd (show (6 : Int32) ≤ nI 3 from q) (by decide), fun _ => ?_⟩
  conv => whnf
  refine ⟨trivial, k_stat55 ?_⟩
  conv => whnf
  refine ⟨vp_in_nI (n := 3) (by decide) (by decide), ?_⟩
  conv => whnf
  refine ⟨trivial, ?_⟩
  exact nx
theorem k_past2 {E : pm_E} {Q : pm_Q} {F : Nat → Option Nat} {a0 a1 a2 a3 a4 a5 a6 a7 a8 a9 a10 a11 a12 a13 a14 a15 : va_E} (h : Q none (a0 :: a1 :: a2 :: a3 :: a4 :: a5 :: a6 :: a7 :: a8 :: a9 :: a10 :: a11 :: a12 :: a13 :: a14 :: a15 :: .inr (5, [.ref 21, .int 0, .int 0]) :: .inl (3, 6, .inr (.inr (.inr (.inr (va_up (va_up (va_up (va_up (F) (nI 2).toNatClampNeg (some 44)) (nI 3).toNatClampNeg (some 55)) (nI 4).toNatClampNeg (some 66)) (nI 5).toNatClampNeg (some 77)))))) :: hS 22 s0 (hS 33 s0 (hS 44 s0 (hS 55 s0 (hS 66 s0 (hS 77 s0 ([])))))))) : Sm E n_X5_init 25 ([some (.ref 20), some (.int (nI 2))], [], a0 :: a1 :: a2 :: a3 :: a4 :: a5 :: a6 :: a7 :: a8 :: a9 :: a10 :: a11 :: a12 :: a13 :: a14 :: a15 :: .inr (5, [.ref 21, .int 0, .int 0]) :: .inl (3, 6, .inr (.inr (.inr (.inr (F))))) :: hS 22 s0 (hS 33 s0 ([])), 23, 234) Q := by
  have nx := k_past3 (E := E) (F := va_up F (nI 2).toNatClampNeg (some 44)) h
  rw [show nI 3 = nI 2 + 1 by decide] at nx
  refine pm_lp (aX5_init E) 100 25 rfl ?_
  conv => whnf
  refine ⟨fun q => absurd (show (6 : Int32) ≤ nI 2 from q) (by decide), fun _ => ?_⟩
  conv => whnf
  refine ⟨trivial, k_stat44 ?_⟩
  conv => whnf
  refine ⟨vp_in_nI (n := 2) (by decide) (by decide), ?_⟩
  conv => whnf
  refine ⟨trivial, ?_⟩
  exact nx
theorem k_past1 {E : pm_E} {Q : pm_Q} {F : Nat → Option Nat} {a0 a1 a2 a3 a4 a5 a6 a7 a8 a9 a10 a11 a12 a13 a14 a15 : va_E} (h : Q none (a0 :: a1 :: a2 :: a3 :: a4 :: a5 :: a6 :: a7 :: a8 :: a9 :: a10 :: a11 :: a12 :: a13 :: a14 :: a15 :: .inr (5, [.ref 21, .int 0, .int 0]) :: .inl (3, 6, .inr (.inr (.inr (.inr (va_up (va_up (va_up (va_up (va_up (F) (nI 1).toNatClampNeg (some 33)) (nI 2).toNatClampNeg (some 44)) (nI 3).toNatClampNeg (some 55)) (nI 4).toNatClampNeg (some 66)) (nI 5).toNatClampNeg (some 77)))))) :: hS 22 s0 (hS 33 s0 (hS 44 s0 (hS 55 s0 (hS 66 s0 (hS 77 s0 ([])))))))) : Sm E n_X5_init 25 ([some (.ref 20), some (.int (nI 1))], [], a0 :: a1 :: a2 :: a3 :: a4 :: a5 :: a6 :: a7 :: a8 :: a9 :: a10 :: a11 :: a12 :: a13 :: a14 :: a15 :: .inr (5, [.ref 21, .int 0, .int 0]) :: .inl (3, 6, .inr (.inr (.inr (.inr (F))))) :: hS 22 s0 ([]), 12, 120) Q := by
  have nx := k_past2 (E := E) (F := va_up F (nI 1).toNatClampNeg (some 33)) h
  rw [show nI 2 = nI 1 + 1 by decide] at nx
  refine pm_lp (aX5_init E) 100 25 rfl ?_
  conv => whnf
  refine ⟨fun q => absurd (show (6 : Int32) ≤ nI 1 from q) (by decide), fun _ => ?_⟩
  conv => whnf
  refine ⟨trivial, k_stat33 ?_⟩
  conv => whnf
  refine ⟨vp_in_nI (n := 1) (by decide) (by decide), ?_⟩
  conv => whnf
  refine ⟨trivial, ?_⟩
  exact nx
theorem k_past0 {E : pm_E} {Q : pm_Q} {F : Nat → Option Nat} {a0 a1 a2 a3 a4 a5 a6 a7 a8 a9 a10 a11 a12 a13 a14 a15 : va_E} (h : Q none (a0 :: a1 :: a2 :: a3 :: a4 :: a5 :: a6 :: a7 :: a8 :: a9 :: a10 :: a11 :: a12 :: a13 :: a14 :: a15 :: .inr (5, [.ref 21, .int 0, .int 0]) :: .inl (3, 6, .inr (.inr (.inr (.inr (va_up (va_up (va_up (va_up (va_up (va_up (F) (nI 0).toNatClampNeg (some 22)) (nI 1).toNatClampNeg (some 33)) (nI 2).toNatClampNeg (some 44)) (nI 3).toNatClampNeg (some 55)) (nI 4).toNatClampNeg (some 66)) (nI 5).toNatClampNeg (some 77)))))) :: hS 22 s0 (hS 33 s0 (hS 44 s0 (hS 55 s0 (hS 66 s0 (hS 77 s0 ([])))))))) : Sm E n_X5_init 25 ([some (.ref 20), some (.int (nI 0))], [], a0 :: a1 :: a2 :: a3 :: a4 :: a5 :: a6 :: a7 :: a8 :: a9 :: a10 :: a11 :: a12 :: a13 :: a14 :: a15 :: .inr (5, [.ref 21, .int 0, .int 0]) :: .inl (3, 6, .inr (.inr (.inr (.inr (F))))) :: [], 1, 6) Q := by
  have nx := k_past1 (E := E) (F := va_up F (nI 0).toNatClampNeg (some 22)) h
  rw [show nI 1 = nI 0 + 1 by decide] at nx
  refine pm_lp (aX5_init E) 100 25 rfl ?_
  conv => whnf
  refine ⟨fun q => absurd (show (6 : Int32) ≤ nI 0 from q) (by decide), fun _ => ?_⟩
  conv => whnf
  refine ⟨trivial, k_stat22 ?_⟩
  conv => whnf
  refine ⟨vp_in_nI (n := 0) (by decide) (by decide), ?_⟩
  conv => whnf
  refine ⟨trivial, ?_⟩
  exact nx
theorem hR_eq : va_up (va_up (va_up (va_up (va_up (va_up (fun _ => none) (nI 0).toNatClampNeg (some 22)) (nI 1).toNatClampNeg (some 33)) (nI 2).toNatClampNeg (some 44)) (nI 3).toNatClampNeg (some 55)) (nI 4).toNatClampNeg (some 66)) (nI 5).toNatClampNeg (some 77) = hR := by
  rw [show (nI 0).toNatClampNeg = 0 by decide, show (nI 1).toNatClampNeg = 1 by decide, show (nI 2).toNatClampNeg = 2 by decide, show (nI 3).toNatClampNeg = 3 by decide, show (nI 4).toNatClampNeg = 4 by decide, show (nI 5).toNatClampNeg = 5 by decide]
  funext t
  match t with
  | 0 => rfl
  | 1 => rfl
  | 2 => rfl
  | 3 => rfl
  | 4 => rfl
  | 5 => rfl
  | t + 6 => simp [va_up, hR]
theorem k_past {E : pm_E} {Q : pm_Q} {a0 a1 a2 a3 a4 a5 a6 a7 a8 a9 a10 a11 a12 a13 a14 a15 : va_E} (h : Q none (a0 :: a1 :: a2 :: a3 :: a4 :: a5 :: a6 :: a7 :: a8 :: a9 :: a10 :: a11 :: a12 :: a13 :: a14 :: a15 :: .inr (5, [.ref 21, .int 0, .int 0]) :: .inl (3, 6, .inr (.inr (.inr (.inr (hR))))) :: hS 22 s0 (hS 33 s0 (hS 44 s0 (hS 55 s0 (hS 66 s0 (hS 77 s0 ([])))))))) : Sm E n_X5_init 0 (pl_entry 2 [.ref 20], [], a0 :: a1 :: a2 :: a3 :: a4 :: a5 :: a6 :: a7 :: a8 :: a9 :: a10 :: a11 :: a12 :: a13 :: a14 :: a15 :: .inr (5, [.null, .int 0, .int 0]) :: [], 0, 0) Q := by
  have nx := k_past0 (E := E) (F := fun _ => none) (by rw [hR_eq]; exact h)
  refine pm_go (aX5_init E) 100 rfl ?_
  conv => whnf
  refine ⟨rfl, ?_⟩
  conv => whnf
  refine ⟨trivial, ?_⟩
  exact nx
theorem k_agr {E : pm_E} {Q : pm_Q} {a0 a1 a2 a3 a4 a5 a6 a7 a8 a9 a10 a11 a12 a13 a14 a15 a16 a17 a18 a19 a20 a21 a22 a23 a24 a25 a26 a27 a28 a29 a30 a31 a32 a33 a34 a35 a36 a37 a38 a39 a40 a41 a42 a43 a44 a45 a46 a47 a48 a49 a50 a51 a52 a53 a54 a55 a56 a57 a58 a59 a60 a61 a62 a63 a64 a65 a66 a67 a68 a69 a70 a71 a72 a73 a74 a75 a76 a77 a78 a79 a80 a81 a82 a83 : va_E} (h : Q none (a0 :: a1 :: a2 :: a3 :: a4 :: a5 :: a6 :: a7 :: a8 :: a9 :: a10 :: a11 :: a12 :: a13 :: a14 :: a15 :: a16 :: a17 :: a18 :: a19 :: a20 :: a21 :: a22 :: a23 :: a24 :: a25 :: a26 :: a27 :: a28 :: a29 :: a30 :: a31 :: a32 :: a33 :: a34 :: a35 :: a36 :: a37 :: a38 :: a39 :: a40 :: a41 :: a42 :: a43 :: a44 :: a45 :: a46 :: a47 :: a48 :: a49 :: a50 :: a51 :: a52 :: a53 :: a54 :: a55 :: a56 :: a57 :: a58 :: a59 :: a60 :: a61 :: a62 :: a63 :: a64 :: a65 :: a66 :: a67 :: a68 :: a69 :: a70 :: a71 :: a72 :: a73 :: a74 :: a75 :: a76 :: a77 :: a78 :: a79 :: a80 :: a81 :: a82 :: a83 :: .inr (0, [.ref 89, .ref 90, .int 0, .int 0, .long 0]) :: eL 6 (fun _ => 0) :: eL 6 (fun _ => 0) :: [])) : Sm E n_X0_init 0 (pl_entry 1 [.ref 88], [], a0 :: a1 :: a2 :: a3 :: a4 :: a5 :: a6 :: a7 :: a8 :: a9 :: a10 :: a11 :: a12 :: a13 :: a14 :: a15 :: a16 :: a17 :: a18 :: a19 :: a20 :: a21 :: a22 :: a23 :: a24 :: a25 :: a26 :: a27 :: a28 :: a29 :: a30 :: a31 :: a32 :: a33 :: a34 :: a35 :: a36 :: a37 :: a38 :: a39 :: a40 :: a41 :: a42 :: a43 :: a44 :: a45 :: a46 :: a47 :: a48 :: a49 :: a50 :: a51 :: a52 :: a53 :: a54 :: a55 :: a56 :: a57 :: a58 :: a59 :: a60 :: a61 :: a62 :: a63 :: a64 :: a65 :: a66 :: a67 :: a68 :: a69 :: a70 :: a71 :: a72 :: a73 :: a74 :: a75 :: a76 :: a77 :: a78 :: a79 :: a80 :: a81 :: a82 :: a83 :: .inr (0, [.null, .null, .int 0, .int 0, .long 0]) :: [], 0, 0) Q := by
  refine pm_go (aX0_init E) 100 rfl ?_
  conv => whnf
  refine ⟨rfl, ?_⟩
  conv => whnf
  refine ⟨rfl, ?_⟩
  conv => whnf
  exact ⟨⟨rfl, rfl⟩, h⟩
theorem k_leap {E : pm_E} {Q : pm_Q} {a0 a1 a2 a3 a4 a5 a6 a7 a8 a9 a10 a11 a12 a13 a14 a15 a16 a17 a18 a19 a20 a21 a22 a23 a24 a25 a26 a27 a28 a29 a30 a31 a32 a33 a34 a35 a36 a37 a38 a39 a40 a41 a42 a43 a44 a45 a46 a47 a48 a49 a50 a51 a52 a53 a54 a55 a56 a57 a58 a59 a60 a61 a62 a63 a64 a65 a66 a67 a68 a69 a70 a71 a72 a73 a74 a75 a76 a77 a78 a79 a80 a81 a82 a83 a84 a85 a86 : va_E} (h : Q none (a0 :: a1 :: a2 :: a3 :: a4 :: a5 :: a6 :: a7 :: a8 :: a9 :: a10 :: a11 :: a12 :: a13 :: a14 :: a15 :: a16 :: a17 :: a18 :: a19 :: a20 :: a21 :: a22 :: a23 :: a24 :: a25 :: a26 :: a27 :: a28 :: a29 :: a30 :: a31 :: a32 :: a33 :: a34 :: a35 :: a36 :: a37 :: a38 :: a39 :: a40 :: a41 :: a42 :: a43 :: a44 :: a45 :: a46 :: a47 :: a48 :: a49 :: a50 :: a51 :: a52 :: a53 :: a54 :: a55 :: a56 :: a57 :: a58 :: a59 :: a60 :: a61 :: a62 :: a63 :: a64 :: a65 :: a66 :: a67 :: a68 :: a69 :: a70 :: a71 :: a72 :: a73 :: a74 :: a75 :: a76 :: a77 :: a78 :: a79 :: a80 :: a81 :: a82 :: a83 :: a84 :: a85 :: a86 :: .inr (3, [.long 0, .long 0, .long 0, .long 0]) :: [])) : Sm E n_X3_init 0 (pl_entry 1 [.ref 91], [], a0 :: a1 :: a2 :: a3 :: a4 :: a5 :: a6 :: a7 :: a8 :: a9 :: a10 :: a11 :: a12 :: a13 :: a14 :: a15 :: a16 :: a17 :: a18 :: a19 :: a20 :: a21 :: a22 :: a23 :: a24 :: a25 :: a26 :: a27 :: a28 :: a29 :: a30 :: a31 :: a32 :: a33 :: a34 :: a35 :: a36 :: a37 :: a38 :: a39 :: a40 :: a41 :: a42 :: a43 :: a44 :: a45 :: a46 :: a47 :: a48 :: a49 :: a50 :: a51 :: a52 :: a53 :: a54 :: a55 :: a56 :: a57 :: a58 :: a59 :: a60 :: a61 :: a62 :: a63 :: a64 :: a65 :: a66 :: a67 :: a68 :: a69 :: a70 :: a71 :: a72 :: a73 :: a74 :: a75 :: a76 :: a77 :: a78 :: a79 :: a80 :: a81 :: a82 :: a83 :: a84 :: a85 :: a86 :: .inr (3, [.long 0, .long 0, .long 0, .long 0]) :: [], 0, 0) Q := by
  refine pm_go (aX3_init E) 100 rfl ?_
  conv => whnf
  exact ⟨trivial, h⟩
