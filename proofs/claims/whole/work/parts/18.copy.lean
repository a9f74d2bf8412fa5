/-! ===== states copied: the past kept and given back (printed by gen18.py) ===== -/
def upS (f : Nat → zS) (i : Nat) (s : zS) : Nat → zS := fun j => if j = i then s else f j
theorem c_mcK0 {E : pm_E} {Q : pm_Q} {x : zD} {m : List va_E} (h : Q none (mkG (sP x (upS (xP x).1 0 ((xS x).1, ((xP x).1 0).2), (xP x).2)) m)) : Sm E n_X4_copyFrom 0 (pl_entry 2 [.ref 23, .ref 10], [], mkG x m, 0, 0) Q := by
  refine pm_go (aX4_copyFrom E) 100 rfl ?_
  conv => whnf
  refine ⟨⟨rfl, rfl⟩, ?_⟩
  conv => whnf
  refine ⟨⟨rfl, rfl, by decide⟩, ?_⟩
  conv => whnf
  refine ⟨⟨rfl, rfl⟩, ?_⟩
  conv => whnf
  refine ⟨⟨rfl, rfl, by decide⟩, ?_⟩
  conv => whnf
  refine ⟨⟨rfl, rfl⟩, ?_⟩
  conv => whnf
  refine ⟨⟨rfl, rfl, by decide⟩, ?_⟩
  conv => whnf
  exact ⟨trivial, h⟩
theorem c_ccK0 {E : pm_E} {Q : pm_Q} {x : zD} {m : List va_E} (h : Q none (mkG (sP x (upS (xP x).1 0 (((xP x).1 0).1, (xS x).2.1, ((xP x).1 0).2.2), (xP x).2)) m)) : Sm E n_X1_copyFrom 0 (pl_entry 2 [.ref 27, .ref 14], [], mkG x m, 0, 0) Q := by
  refine pm_go (aX1_copyFrom E) 100 rfl ?_
  conv => whnf
  refine ⟨⟨rfl, rfl⟩, ?_⟩
  conv => whnf
  refine ⟨⟨rfl, rfl, by decide⟩, ?_⟩
  conv => whnf
  refine ⟨⟨rfl, rfl⟩, ?_⟩
  conv => whnf
  refine ⟨⟨rfl, rfl, by decide⟩, ?_⟩
  conv => whnf
  refine ⟨⟨rfl, rfl⟩, ?_⟩
  conv => whnf
  refine ⟨⟨rfl, rfl, by decide⟩, ?_⟩
  conv => whnf
  refine ⟨⟨rfl, rfl⟩, ?_⟩
  conv => whnf
  refine ⟨⟨rfl, rfl, by decide⟩, ?_⟩
  conv => whnf
  refine ⟨⟨rfl, rfl⟩, ?_⟩
  conv => whnf
  refine ⟨⟨rfl, rfl, by decide⟩, ?_⟩
  conv => whnf
  exact ⟨trivial, h⟩
theorem c_scK0 {E : pm_E} {Q : pm_Q} {x : zD} {m : List va_E} (h : Q none (mkG (sP x (upS (xP x).1 0 (xS x), (xP x).2)) m)) : Sm E n_X6_copyFrom 0 (pl_entry 2 [.ref 22, .ref 9], [], mkG x m, 0, 0) Q := by
  refine pm_go (aX6_copyFrom E) 100 rfl ?_
  conv => whnf
  refine ⟨trivial, c_mcK0 ?_⟩
  conv => whnf
  refine ⟨trivial, c_ccK0 ?_⟩
  conv => whnf
  exact ⟨trivial, h⟩
theorem c_mcG0 {E : pm_E} {Q : pm_Q} {x : zD} {m : List va_E} (h : Q none (mkG (sS x (((xP x).1 0).1, (xS x).2)) m)) : Sm E n_X4_copyFrom 0 (pl_entry 2 [.ref 10, .ref 23], [], mkG x m, 0, 0) Q := by
  refine pm_go (aX4_copyFrom E) 100 rfl ?_
  conv => whnf
  refine ⟨⟨rfl, rfl⟩, ?_⟩
  conv => whnf
  refine ⟨⟨rfl, rfl, by decide⟩, ?_⟩
  conv => whnf
  refine ⟨⟨rfl, rfl⟩, ?_⟩
  conv => whnf
  refine ⟨⟨rfl, rfl, by decide⟩, ?_⟩
  conv => whnf
  refine ⟨⟨rfl, rfl⟩, ?_⟩
  conv => whnf
  refine ⟨⟨rfl, rfl, by decide⟩, ?_⟩
  conv => whnf
  exact ⟨trivial, h⟩
theorem c_ccG0 {E : pm_E} {Q : pm_Q} {x : zD} {m : List va_E} (h : Q none (mkG (sS x ((xS x).1, ((xP x).1 0).2.1, (xS x).2.2)) m)) : Sm E n_X1_copyFrom 0 (pl_entry 2 [.ref 14, .ref 27], [], mkG x m, 0, 0) Q := by
  refine pm_go (aX1_copyFrom E) 100 rfl ?_
  conv => whnf
  refine ⟨⟨rfl, rfl⟩, ?_⟩
  conv => whnf
  refine ⟨⟨rfl, rfl, by decide⟩, ?_⟩
  conv => whnf
  refine ⟨⟨rfl, rfl⟩, ?_⟩
  conv => whnf
  refine ⟨⟨rfl, rfl, by decide⟩, ?_⟩
  conv => whnf
  refine ⟨⟨rfl, rfl⟩, ?_⟩
  conv => whnf
  refine ⟨⟨rfl, rfl, by decide⟩, ?_⟩
  conv => whnf
  refine ⟨⟨rfl, rfl⟩, ?_⟩
  conv => whnf
  refine ⟨⟨rfl, rfl, by decide⟩, ?_⟩
  conv => whnf
  refine ⟨⟨rfl, rfl⟩, ?_⟩
  conv => whnf
  refine ⟨⟨rfl, rfl, by decide⟩, ?_⟩
  conv => whnf
  exact ⟨trivial, h⟩
theorem c_scG0 {E : pm_E} {Q : pm_Q} {x : zD} {m : List va_E} (h : Q none (mkG (sS x ((xP x).1 0)) m)) : Sm E n_X6_copyFrom 0 (pl_entry 2 [.ref 9, .ref 22], [], mkG x m, 0, 0) Q := by
  refine pm_go (aX6_copyFrom E) 100 rfl ?_
  conv => whnf
  refine ⟨trivial, c_mcG0 ?_⟩
  conv => whnf
  refine ⟨trivial, c_ccG0 ?_⟩
  conv => whnf
  exact ⟨trivial, h⟩
theorem c_mcK1 {E : pm_E} {Q : pm_Q} {x : zD} {m : List va_E} (h : Q none (mkG (sP x (upS (xP x).1 1 ((xS x).1, ((xP x).1 1).2), (xP x).2)) m)) : Sm E n_X4_copyFrom 0 (pl_entry 2 [.ref 34, .ref 10], [], mkG x m, 0, 0) Q := by
  refine pm_go (aX4_copyFrom E) 100 rfl ?_
  conv => whnf
  refine ⟨⟨rfl, rfl⟩, ?_⟩
  conv => whnf
  refine ⟨⟨rfl, rfl, by decide⟩, ?_⟩
  conv => whnf
  refine ⟨⟨rfl, rfl⟩, ?_⟩
  conv => whnf
  refine ⟨⟨rfl, rfl, by decide⟩, ?_⟩
  conv => whnf
  refine ⟨⟨rfl, rfl⟩, ?_⟩
  conv => whnf
  refine ⟨⟨rfl, rfl, by decide⟩, ?_⟩
  conv => whnf
  exact ⟨trivial, h⟩
theorem c_ccK1 {E : pm_E} {Q : pm_Q} {x : zD} {m : List va_E} (h : Q none (mkG (sP x (upS (xP x).1 1 (((xP x).1 1).1, (xS x).2.1, ((xP x).1 1).2.2), (xP x).2)) m)) : Sm E n_X1_copyFrom 0 (pl_entry 2 [.ref 38, .ref 14], [], mkG x m, 0, 0) Q := by
  refine pm_go (aX1_copyFrom E) 100 rfl ?_
  conv => whnf
  refine ⟨⟨rfl, rfl⟩, ?_⟩
  conv => whnf
  refine ⟨⟨rfl, rfl, by decide⟩, ?_⟩
  conv => whnf
  refine ⟨⟨rfl, rfl⟩, ?_⟩
  conv => whnf
  refine ⟨⟨rfl, rfl, by decide⟩, ?_⟩
  conv => whnf
  refine ⟨⟨rfl, rfl⟩, ?_⟩
  conv => whnf
  refine ⟨⟨rfl, rfl, by decide⟩, ?_⟩
  conv => whnf
  refine ⟨⟨rfl, rfl⟩, ?_⟩
  conv => whnf
  refine ⟨⟨rfl, rfl, by decide⟩, ?_⟩
  conv => whnf
  refine ⟨⟨rfl, rfl⟩, ?_⟩
  conv => whnf
  refine ⟨⟨rfl, rfl, by decide⟩, ?_⟩
  conv => whnf
  exact ⟨trivial, h⟩
theorem c_scK1 {E : pm_E} {Q : pm_Q} {x : zD} {m : List va_E} (h : Q none (mkG (sP x (upS (xP x).1 1 (xS x), (xP x).2)) m)) : Sm E n_X6_copyFrom 0 (pl_entry 2 [.ref 33, .ref 9], [], mkG x m, 0, 0) Q := by
  refine pm_go (aX6_copyFrom E) 100 rfl ?_
  conv => whnf
  refine ⟨trivial, c_mcK1 ?_⟩
  conv => whnf
  refine ⟨trivial, c_ccK1 ?_⟩
  conv => whnf
  exact ⟨trivial, h⟩
theorem c_mcG1 {E : pm_E} {Q : pm_Q} {x : zD} {m : List va_E} (h : Q none (mkG (sS x (((xP x).1 1).1, (xS x).2)) m)) : Sm E n_X4_copyFrom 0 (pl_entry 2 [.ref 10, .ref 34], [], mkG x m, 0, 0) Q := by
  refine pm_go (aX4_copyFrom E) 100 rfl ?_
  conv => whnf
  refine ⟨⟨rfl, rfl⟩, ?_⟩
  conv => whnf
  refine ⟨⟨rfl, rfl, by decide⟩, ?_⟩
  conv => whnf
  refine ⟨⟨rfl, rfl⟩, ?_⟩
  conv => whnf
  refine ⟨⟨rfl, rfl, by decide⟩, ?_⟩
  conv => whnf
  refine ⟨⟨rfl, rfl⟩, ?_⟩
  conv => whnf
  refine ⟨⟨rfl, rfl, by decide⟩, ?_⟩
  conv => whnf
  exact ⟨trivial, h⟩
theorem c_ccG1 {E : pm_E} {Q : pm_Q} {x : zD} {m : List va_E} (h : Q none (mkG (sS x ((xS x).1, ((xP x).1 1).2.1, (xS x).2.2)) m)) : Sm E n_X1_copyFrom 0 (pl_entry 2 [.ref 14, .ref 38], [], mkG x m, 0, 0) Q := by
  refine pm_go (aX1_copyFrom E) 100 rfl ?_
  conv => whnf
  refine ⟨⟨rfl, rfl⟩, ?_⟩
  conv => whnf
  refine ⟨⟨rfl, rfl, by decide⟩, ?_⟩
  conv => whnf
  refine ⟨⟨rfl, rfl⟩, ?_⟩
  conv => whnf
  refine ⟨⟨rfl, rfl, by decide⟩, ?_⟩
  conv => whnf
  refine ⟨⟨rfl, rfl⟩, ?_⟩
  conv => whnf
  refine ⟨⟨rfl, rfl, by decide⟩, ?_⟩
  conv => whnf
  refine ⟨⟨rfl, rfl⟩, ?_⟩
  conv => whnf
  refine ⟨⟨rfl, rfl, by decide⟩, ?_⟩
  conv => whnf
  refine ⟨⟨rfl, rfl⟩, ?_⟩
  conv => whnf
  refine ⟨⟨rfl, rfl, by decide⟩, ?_⟩
  conv => whnf
  exact ⟨trivial, h⟩
theorem c_scG1 {E : pm_E} {Q : pm_Q} {x : zD} {m : List va_E} (h : Q none (mkG (sS x ((xP x).1 1)) m)) : Sm E n_X6_copyFrom 0 (pl_entry 2 [.ref 9, .ref 33], [], mkG x m, 0, 0) Q := by
  refine pm_go (aX6_copyFrom E) 100 rfl ?_
  conv => whnf
  refine ⟨trivial, c_mcG1 ?_⟩
  conv => whnf
  refine ⟨trivial, c_ccG1 ?_⟩
  conv => whnf
  exact ⟨trivial, h⟩
theorem c_mcK2 {E : pm_E} {Q : pm_Q} {x : zD} {m : List va_E} (h : Q none (mkG (sP x (upS (xP x).1 2 ((xS x).1, ((xP x).1 2).2), (xP x).2)) m)) : Sm E n_X4_copyFrom 0 (pl_entry 2 [.ref 45, .ref 10], [], mkG x m, 0, 0) Q := by
  refine pm_go (aX4_copyFrom E) 100 rfl ?_
  conv => whnf
  refine ⟨⟨rfl, rfl⟩, ?_⟩
  conv => whnf
  refine ⟨⟨rfl, rfl, by decide⟩, ?_⟩
  conv => whnf
  refine ⟨⟨rfl, rfl⟩, ?_⟩
  conv => whnf
  refine ⟨⟨rfl, rfl, by decide⟩, ?_⟩
  conv => whnf
  refine ⟨⟨rfl, rfl⟩, ?_⟩
  conv => whnf
  refine ⟨⟨rfl, rfl, by decide⟩, ?_⟩
  conv => whnf
  exact ⟨trivial, h⟩
theorem c_ccK2 {E : pm_E} {Q : pm_Q} {x : zD} {m : List va_E} (h : Q none (mkG (sP x (upS (xP x).1 2 (((xP x).1 2).1, (xS x).2.1, ((xP x).1 2).2.2), (xP x).2)) m)) : Sm E n_X1_copyFrom 0 (pl_entry 2 [.ref 49, .ref 14], [], mkG x m, 0, 0) Q := by
  refine pm_go (aX1_copyFrom E) 100 rfl ?_
  conv => whnf
  refine ⟨⟨rfl, rfl⟩, ?_⟩
  conv => whnf
  refine ⟨⟨rfl, rfl, by decide⟩, ?_⟩
  conv => whnf
  refine ⟨⟨rfl, rfl⟩, ?_⟩
  conv => whnf
  refine ⟨⟨rfl, rfl, by decide⟩, ?_⟩
  conv => whnf
  refine ⟨⟨rfl, rfl⟩, ?_⟩
  conv => whnf
  refine ⟨⟨rfl, rfl, by decide⟩, ?_⟩
  conv => whnf
  refine ⟨⟨rfl, rfl⟩, ?_⟩
  conv => whnf
  refine ⟨⟨rfl, rfl, by decide⟩, ?_⟩
  conv => whnf
  refine ⟨⟨rfl, rfl⟩, ?_⟩
  conv => whnf
  refine ⟨⟨rfl, rfl, by decide⟩, ?_⟩
  conv => whnf
  exact ⟨trivial, h⟩
theorem c_scK2 {E : pm_E} {Q : pm_Q} {x : zD} {m : List va_E} (h : Q none (mkG (sP x (upS (xP x).1 2 (xS x), (xP x).2)) m)) : Sm E n_X6_copyFrom 0 (pl_entry 2 [.ref 44, .ref 9], [], mkG x m, 0, 0) Q := by
  refine pm_go (aX6_copyFrom E) 100 rfl ?_
  conv => whnf
  refine ⟨trivial, c_mcK2 ?_⟩
  conv => whnf
  refine ⟨trivial, c_ccK2 ?_⟩
  conv => whnf
  exact ⟨trivial, h⟩
theorem c_mcG2 {E : pm_E} {Q : pm_Q} {x : zD} {m : List va_E} (h : Q none (mkG (sS x (((xP x).1 2).1, (xS x).2)) m)) : Sm E n_X4_copyFrom 0 (pl_entry 2 [.ref 10, .ref 45], [], mkG x m, 0, 0) Q := by
  refine pm_go (aX4_copyFrom E) 100 rfl ?_
  conv => whnf
  refine ⟨⟨rfl, rfl⟩, ?_⟩
  conv => whnf
  refine ⟨⟨rfl, rfl, by decide⟩, ?_⟩
  conv => whnf
  refine ⟨⟨rfl, rfl⟩, ?_⟩
  conv => whnf
  refine ⟨⟨rfl, rfl, by decide⟩, ?_⟩
  conv => whnf
  refine ⟨⟨rfl, rfl⟩, ?_⟩
  conv => whnf
  refine ⟨⟨rfl, rfl, by decide⟩, ?_⟩
  conv => whnf
  exact ⟨trivial, h⟩
theorem c_ccG2 {E : pm_E} {Q : pm_Q} {x : zD} {m : List va_E} (h : Q none (mkG (sS x ((xS x).1, ((xP x).1 2).2.1, (xS x).2.2)) m)) : Sm E n_X1_copyFrom 0 (pl_entry 2 [.ref 14, .ref 49], [], mkG x m, 0, 0) Q := by
  refine pm_go (aX1_copyFrom E) 100 rfl ?_
  conv => whnf
  refine ⟨⟨rfl, rfl⟩, ?_⟩
  conv => whnf
  refine ⟨⟨rfl, rfl, by decide⟩, ?_⟩
  conv => whnf
  refine ⟨⟨rfl, rfl⟩, ?_⟩
  conv => whnf
  refine ⟨⟨rfl, rfl, by decide⟩, ?_⟩
  conv => whnf
  refine ⟨⟨rfl, rfl⟩, ?_⟩
  conv => whnf
  refine ⟨⟨rfl, rfl, by decide⟩, ?_⟩
  conv => whnf
  refine ⟨⟨rfl, rfl⟩, ?_⟩
  conv => whnf
  refine ⟨⟨rfl, rfl, by decide⟩, ?_⟩
  conv => whnf
  refine ⟨⟨rfl, rfl⟩, ?_⟩
  conv => whnf
  refine ⟨⟨rfl, rfl, by decide⟩, ?_⟩
  conv => whnf
  exact ⟨trivial, h⟩
theorem c_scG2 {E : pm_E} {Q : pm_Q} {x : zD} {m : List va_E} (h : Q none (mkG (sS x ((xP x).1 2)) m)) : Sm E n_X6_copyFrom 0 (pl_entry 2 [.ref 9, .ref 44], [], mkG x m, 0, 0) Q := by
  refine pm_go (aX6_copyFrom E) 100 rfl ?_
  conv => whnf
  refine ⟨trivial, c_mcG2 ?_⟩
  conv => whnf
  refine ⟨trivial, c_ccG2 ?_⟩
  conv => whnf
  exact ⟨trivial, h⟩
theorem c_mcK3 {E : pm_E} {Q : pm_Q} {x : zD} {m : List va_E} (h : Q none (mkG (sP x (upS (xP x).1 3 ((xS x).1, ((xP x).1 3).2), (xP x).2)) m)) : Sm E n_X4_copyFrom 0 (pl_entry 2 [.ref 56, .ref 10], [], mkG x m, 0, 0) Q := by
  refine pm_go (aX4_copyFrom E) 100 rfl ?_
  conv => whnf
  refine ⟨⟨rfl, rfl⟩, ?_⟩
  conv => whnf
  refine ⟨⟨rfl, rfl, by decide⟩, ?_⟩
  conv => whnf
  refine ⟨⟨rfl, rfl⟩, ?_⟩
  conv => whnf
  refine ⟨⟨rfl, rfl, by decide⟩, ?_⟩
  conv => whnf
  refine ⟨⟨rfl, rfl⟩, ?_⟩
  conv => whnf
  refine ⟨⟨rfl, rfl, by decide⟩, ?_⟩
  conv => whnf
  exact ⟨trivial, h⟩
theorem c_ccK3 {E : pm_E} {Q : pm_Q} {x : zD} {m : List va_E} (h : Q none (mkG (sP x (upS (xP x).1 3 (((xP x).1 3).1, (xS x).2.1, ((xP x).1 3).2.2), (xP x).2)) m)) : Sm E n_X1_copyFrom 0 (pl_entry 2 [.ref 60, .ref 14], [], mkG x m, 0, 0) Q := by
  refine pm_go (aX1_copyFrom E) 100 rfl ?_
  conv => whnf
  refine ⟨⟨rfl, rfl⟩, ?_⟩
  conv => whnf
  refine ⟨⟨rfl, rfl, by decide⟩, ?_⟩
  conv => whnf
  refine ⟨⟨rfl, rfl⟩, ?_⟩
  conv => whnf
  refine ⟨⟨rfl, rfl, by decide⟩, ?_⟩
  conv => whnf
  refine ⟨⟨rfl, rfl⟩, ?_⟩
  conv => whnf
  refine ⟨⟨rfl, rfl, by decide⟩, ?_⟩
  conv => whnf
  refine ⟨⟨rfl, rfl⟩, ?_⟩
  conv => whnf
  refine ⟨⟨rfl, rfl, by decide⟩, ?_⟩
  conv => whnf
  refine ⟨⟨rfl, rfl⟩, ?_⟩
  conv => whnf
  refine ⟨⟨rfl, rfl, by decide⟩, ?_⟩
  conv => whnf
  exact ⟨trivial, h⟩
theorem c_scK3 {E : pm_E} {Q : pm_Q} {x : zD} {m : List va_E} (h : Q none (mkG (sP x (upS (xP x).1 3 (xS x), (xP x).2)) m)) : Sm E n_X6_copyFrom 0 (pl_entry 2 [.ref 55, .ref 9], [], mkG x m, 0, 0) Q := by
  refine pm_go (aX6_copyFrom E) 100 rfl ?_
  conv => whnf
  refine ⟨trivial, c_mcK3 ?_⟩
  conv => whnf
  refine ⟨trivial, c_ccK3 ?_⟩
  conv => whnf
  exact ⟨trivial, h⟩
theorem c_mcG3 {E : pm_E} {Q : pm_Q} {x : zD} {m : List va_E} (h : Q none (mkG (sS x (((xP x).1 3).1, (xS x).2)) m)) : Sm E n_X4_copyFrom 0 (pl_entry 2 [.ref 10, .ref 56], [], mkG x m, 0, 0) Q := by
  refine pm_go (aX4_copyFrom E) 100 rfl ?_
  conv => whnf
  refine ⟨⟨rfl, rfl⟩, ?_⟩
  conv => whnf
  refine ⟨⟨rfl, rfl, by decide⟩, ?_⟩
  conv => whnf
  refine ⟨⟨rfl, rfl⟩, ?_⟩
  conv => whnf
  refine ⟨⟨rfl, rfl, by decide⟩, ?_⟩
  conv => whnf
  refine ⟨⟨rfl, rfl⟩, ?_⟩
  conv => whnf
  refine ⟨⟨rfl, rfl, by decide⟩, ?_⟩
  conv => whnf
  exact ⟨trivial, h⟩
theorem c_ccG3 {E : pm_E} {Q : pm_Q} {x : zD} {m : List va_E} (h : Q none (mkG (sS x ((xS x).1, ((xP x).1 3).2.1, (xS x).2.2)) m)) : Sm E n_X1_copyFrom 0 (pl_entry 2 [.ref 14, .ref 60], [], mkG x m, 0, 0) Q := by
  refine pm_go (aX1_copyFrom E) 100 rfl ?_
  conv => whnf
  refine ⟨⟨rfl, rfl⟩, ?_⟩
  conv => whnf
  refine ⟨⟨rfl, rfl, by decide⟩, ?_⟩
  conv => whnf
  refine ⟨⟨rfl, rfl⟩, ?_⟩
  conv => whnf
  refine ⟨⟨rfl, rfl, by decide⟩, ?_⟩
  conv => whnf
  refine ⟨⟨rfl, rfl⟩, ?_⟩
  conv => whnf
  refine ⟨⟨rfl, rfl, by decide⟩, ?_⟩
  conv => whnf
  refine ⟨⟨rfl, rfl⟩, ?_⟩
  conv => whnf
  refine ⟨⟨rfl, rfl, by decide⟩, ?_⟩
  conv => whnf
  refine ⟨⟨rfl, rfl⟩, ?_⟩
  conv => whnf
  refine ⟨⟨rfl, rfl, by decide⟩, ?_⟩
  conv => whnf
  exact ⟨trivial, h⟩
theorem c_scG3 {E : pm_E} {Q : pm_Q} {x : zD} {m : List va_E} (h : Q none (mkG (sS x ((xP x).1 3)) m)) : Sm E n_X6_copyFrom 0 (pl_entry 2 [.ref 9, .ref 55], [], mkG x m, 0, 0) Q := by
  refine pm_go (aX6_copyFrom E) 100 rfl ?_
  conv => whnf
  refine ⟨trivial, c_mcG3 ?_⟩
  conv => whnf
  refine ⟨trivial, c_ccG3 ?_⟩
  conv => whnf
  exact ⟨trivial, h⟩
theorem c_mcK4 {E : pm_E} {Q : pm_Q} {x : zD} {m : List va_E} (h : Q none (mkG (sP x (upS (xP x).1 4 ((xS x).1, ((xP x).1 4).2), (xP x).2)) m)) : Sm E n_X4_copyFrom 0 (pl_entry 2 [.ref 67, .ref 10], [], mkG x m, 0, 0) Q := by
  refine pm_go (aX4_copyFrom E) 100 rfl ?_
  conv => whnf
  refine ⟨⟨rfl, rfl⟩, ?_⟩
  conv => whnf
  refine ⟨⟨rfl, rfl, by decide⟩, ?_⟩
  conv => whnf
  refine ⟨⟨rfl, rfl⟩, ?_⟩
  conv => whnf
  refine ⟨⟨rfl, rfl, by decide⟩, ?_⟩
  conv => whnf
  refine ⟨⟨rfl, rfl⟩, ?_⟩
  conv => whnf
  refine ⟨⟨rfl, rfl, by decide⟩, ?_⟩
  conv => whnf
  exact ⟨trivial, h⟩
theorem c_ccK4 {E : pm_E} {Q : pm_Q} {x : zD} {m : List va_E} (h : Q none (mkG (sP x (upS (xP x).1 4 (((xP x).1 4).1, (xS x).2.1, ((xP x).1 4).2.2), (xP x).2)) m)) : Sm E n_X1_copyFrom 0 (pl_entry 2 [.ref 71, .ref 14], [], mkG x m, 0, 0) Q := by
  refine pm_go (aX1_copyFrom E) 100 rfl ?_
  conv => whnf
  refine ⟨⟨rfl, rfl⟩, ?_⟩
  conv => whnf
  refine ⟨⟨rfl, rfl, by decide⟩, ?_⟩
  conv => whnf
  refine ⟨⟨rfl, rfl⟩, ?_⟩
  conv => whnf
  refine ⟨⟨rfl, rfl, by decide⟩, ?_⟩
  conv => whnf
  refine ⟨⟨rfl, rfl⟩, ?_⟩
  conv => whnf
  refine ⟨⟨rfl, rfl, by decide⟩, ?_⟩
  conv => whnf
  refine ⟨⟨rfl, rfl⟩, ?_⟩
  conv => whnf
  refine ⟨⟨rfl, rfl, by decide⟩, ?_⟩
  conv => whnf
  refine ⟨⟨rfl, rfl⟩, ?_⟩
  conv => whnf
  refine ⟨⟨rfl, rfl, by decide⟩, ?_⟩
  conv => whnf
  exact ⟨trivial, h⟩
theorem c_scK4 {E : pm_E} {Q : pm_Q} {x : zD} {m : List va_E} (h : Q none (mkG (sP x (upS (xP x).1 4 (xS x), (xP x).2)) m)) : Sm E n_X6_copyFrom 0 (pl_entry 2 [.ref 66, .ref 9], [], mkG x m, 0, 0) Q := by
  refine pm_go (aX6_copyFrom E) 100 rfl ?_
  conv => whnf
  refine ⟨trivial, c_mcK4 ?_⟩
  conv => whnf
  refine ⟨trivial, c_ccK4 ?_⟩
  conv => whnf
  exact ⟨trivial, h⟩
theorem c_mcG4 {E : pm_E} {Q : pm_Q} {x : zD} {m : List va_E} (h : Q none (mkG (sS x (((xP x).1 4).1, (xS x).2)) m)) : Sm E n_X4_copyFrom 0 (pl_entry 2 [.ref 10, .ref 67], [], mkG x m, 0, 0) Q := by
  refine pm_go (aX4_copyFrom E) 100 rfl ?_
  conv => whnf
  refine ⟨⟨rfl, rfl⟩, ?_⟩
  conv => whnf
  refine ⟨⟨rfl, rfl, by decide⟩, ?_⟩
  conv => whnf
  refine ⟨⟨rfl, rfl⟩, ?_⟩
  conv => whnf
  refine ⟨⟨rfl, rfl, by decide⟩, ?_⟩
  conv => whnf
  refine ⟨⟨rfl, rfl⟩, ?_⟩
  conv => whnf
  refine ⟨⟨rfl, rfl, by decide⟩, ?_⟩
  conv => whnf
  exact ⟨trivial, h⟩
theorem c_ccG4 {E : pm_E} {Q : pm_Q} {x : zD} {m : List va_E} (h : Q none (mkG (sS x ((xS x).1, ((xP x).1 4).2.1, (xS x).2.2)) m)) : Sm E n_X1_copyFrom 0 (pl_entry 2 [.ref 14, .ref 71], [], mkG x m, 0, 0) Q := by
  refine pm_go (aX1_copyFrom E) 100 rfl ?_
  conv => whnf
  refine ⟨⟨rfl, rfl⟩, ?_⟩
  conv => whnf
  refine ⟨⟨rfl, rfl, by decide⟩, ?_⟩
  conv => whnf
  refine ⟨⟨rfl, rfl⟩, ?_⟩
  conv => whnf
  refine ⟨⟨rfl, rfl, by decide⟩, ?_⟩
  conv => whnf
  refine ⟨⟨rfl, rfl⟩, ?_⟩
  conv => whnf
  refine ⟨⟨rfl, rfl, by decide⟩, ?_⟩
  conv => whnf
  refine ⟨⟨rfl, rfl⟩, ?_⟩
  conv => whnf
  refine ⟨⟨rfl, rfl, by decide⟩, ?_⟩
  conv => whnf
  refine ⟨⟨rfl, rfl⟩, ?_⟩
  conv => whnf
  refine ⟨⟨rfl, rfl, by decide⟩, ?_⟩
  conv => whnf
  exact ⟨trivial, h⟩
theorem c_scG4 {E : pm_E} {Q : pm_Q} {x : zD} {m : List va_E} (h : Q none (mkG (sS x ((xP x).1 4)) m)) : Sm E n_X6_copyFrom 0 (pl_entry 2 [.ref 9, .ref 66], [], mkG x m, 0, 0) Q := by
  refine pm_go (aX6_copyFrom E) 100 rfl ?_
  conv => whnf
  refine ⟨trivial, c_mcG4 ?_⟩
  conv => whnf
  refine ⟨trivial, c_ccG4 ?_⟩
  conv => whnf
  exact ⟨trivial, h⟩
theorem c_mcK5 {E : pm_E} {Q : pm_Q} {x : zD} {m : List va_E} (h : Q none (mkG (sP x (upS (xP x).1 5 ((xS x).1, ((xP x).1 5).2), (xP x).2)) m)) : Sm E n_X4_copyFrom 0 (pl_entry 2 [.ref 78, .ref 10], [], mkG x m, 0, 0) Q := by
  refine pm_go (aX4_copyFrom E) 100 rfl ?_
  conv => whnf
  refine ⟨⟨rfl, rfl⟩, ?_⟩
  conv => whnf
  refine ⟨⟨rfl, rfl, by decide⟩, ?_⟩
  conv => whnf
  refine ⟨⟨rfl, rfl⟩, ?_⟩
  conv => whnf
  refine ⟨⟨rfl, rfl, by decide⟩, ?_⟩
  conv => whnf
  refine ⟨⟨rfl, rfl⟩, ?_⟩
  conv => whnf
  refine ⟨⟨rfl, rfl, by decide⟩, ?_⟩
  conv => whnf
  exact ⟨trivial, h⟩
theorem c_ccK5 {E : pm_E} {Q : pm_Q} {x : zD} {m : List va_E} (h : Q none (mkG (sP x (upS (xP x).1 5 (((xP x).1 5).1, (xS x).2.1, ((xP x).1 5).2.2), (xP x).2)) m)) : Sm E n_X1_copyFrom 0 (pl_entry 2 [.ref 82, .ref 14], [], mkG x m, 0, 0) Q := by
  refine pm_go (aX1_copyFrom E) 100 rfl ?_
  conv => whnf
  refine ⟨⟨rfl, rfl⟩, ?_⟩
  conv => whnf
  refine ⟨⟨rfl, rfl, by decide⟩, ?_⟩
  conv => whnf
  refine ⟨⟨rfl, rfl⟩, ?_⟩
  conv => whnf
  refine ⟨⟨rfl, rfl, by decide⟩, ?_⟩
  conv => whnf
  refine ⟨⟨rfl, rfl⟩, ?_⟩
  conv => whnf
  refine ⟨⟨rfl, rfl, by decide⟩, ?_⟩
  conv => whnf
  refine ⟨⟨rfl, rfl⟩, ?_⟩
  conv => whnf
  refine ⟨⟨rfl, rfl, by decide⟩, ?_⟩
  conv => whnf
  refine ⟨⟨rfl, rfl⟩, ?_⟩
  conv => whnf
  refine ⟨⟨rfl, rfl, by decide⟩, ?_⟩
  conv => whnf
  exact ⟨trivial, h⟩
theorem c_scK5 {E : pm_E} {Q : pm_Q} {x : zD} {m : List va_E} (h : Q none (mkG (sP x (upS (xP x).1 5 (xS x), (xP x).2)) m)) : Sm E n_X6_copyFrom 0 (pl_entry 2 [.ref 77, .ref 9], [], mkG x m, 0, 0) Q := by
  refine pm_go (aX6_copyFrom E) 100 rfl ?_
  conv => whnf
  refine ⟨trivial, c_mcK5 ?_⟩
  conv => whnf
  refine ⟨trivial, c_ccK5 ?_⟩
  conv => whnf
  exact ⟨trivial, h⟩
theorem c_mcG5 {E : pm_E} {Q : pm_Q} {x : zD} {m : List va_E} (h : Q none (mkG (sS x (((xP x).1 5).1, (xS x).2)) m)) : Sm E n_X4_copyFrom 0 (pl_entry 2 [.ref 10, .ref 78], [], mkG x m, 0, 0) Q := by
  refine pm_go (aX4_copyFrom E) 100 rfl ?_
  conv => whnf
  refine ⟨⟨rfl, rfl⟩, ?_⟩
  conv => whnf
  refine ⟨⟨rfl, rfl, by decide⟩, ?_⟩
  conv => whnf
  refine ⟨⟨rfl, rfl⟩, ?_⟩
  conv => whnf
  refine ⟨⟨rfl, rfl, by decide⟩, ?_⟩
  conv => whnf
  refine ⟨⟨rfl, rfl⟩, ?_⟩
  conv => whnf
  refine ⟨⟨rfl, rfl, by decide⟩, ?_⟩
  conv => whnf
  exact ⟨trivial, h⟩
theorem c_ccG5 {E : pm_E} {Q : pm_Q} {x : zD} {m : List va_E} (h : Q none (mkG (sS x ((xS x).1, ((xP x).1 5).2.1, (xS x).2.2)) m)) : Sm E n_X1_copyFrom 0 (pl_entry 2 [.ref 14, .ref 82], [], mkG x m, 0, 0) Q := by
  refine pm_go (aX1_copyFrom E) 100 rfl ?_
  conv => whnf
  refine ⟨⟨rfl, rfl⟩, ?_⟩
  conv => whnf
  refine ⟨⟨rfl, rfl, by decide⟩, ?_⟩
  conv => whnf
  refine ⟨⟨rfl, rfl⟩, ?_⟩
  conv => whnf
  refine ⟨⟨rfl, rfl, by decide⟩, ?_⟩
  conv => whnf
  refine ⟨⟨rfl, rfl⟩, ?_⟩
  conv => whnf
  refine ⟨⟨rfl, rfl, by decide⟩, ?_⟩
  conv => whnf
  refine ⟨⟨rfl, rfl⟩, ?_⟩
  conv => whnf
  refine ⟨⟨rfl, rfl, by decide⟩, ?_⟩
  conv => whnf
  refine ⟨⟨rfl, rfl⟩, ?_⟩
  conv => whnf
  refine ⟨⟨rfl, rfl, by decide⟩, ?_⟩
  conv => whnf
  exact ⟨trivial, h⟩
theorem c_scG5 {E : pm_E} {Q : pm_Q} {x : zD} {m : List va_E} (h : Q none (mkG (sS x ((xP x).1 5)) m)) : Sm E n_X6_copyFrom 0 (pl_entry 2 [.ref 9, .ref 77], [], mkG x m, 0, 0) Q := by
  refine pm_go (aX6_copyFrom E) 100 rfl ?_
  conv => whnf
  refine ⟨trivial, c_mcG5 ?_⟩
  conv => whnf
  refine ⟨trivial, c_ccG5 ?_⟩
  conv => whnf
  exact ⟨trivial, h⟩
