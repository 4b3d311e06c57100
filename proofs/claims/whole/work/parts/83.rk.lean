/-! the two rows of lines, when they are read -/
theorem kv17 {q : Nat} (hq : q = 1 ∨ q = 4) (σ : hbM) : hb_ev hbSH 17 [.ref 43, .ref q] σ = hb_run hbSH 17 (0, [.ref 43, .ref q, .null, .null], [], σ) := by
  rcases hq with rfl | rfl
  · exact v17a σ
  · exact v17b σ
theorem ke17_0 {q : Nat} (hq : q = 1 ∨ q = 4) (σ : hbM) : hb_run hbSH 17 (0, [.ref 43, .ref q, .null, .null], [], σ) = if ((σ q 3) < (4 : Int32)) then (hb_cv (hb_ev hbSH 26 [.ref 43] σ) (fun σ15 => hb_run hbSH 17 (20, [.ref 43, .ref q, .int 0, .null], [], σ15))) else (hb_ci (hb_ev hbSH 25 [.ref 43, .int 3] σ) (fun y10 σ10 => hb_g [hb_01 y10] (some (some (.int y10), σ10)))) := by
  rcases hq with rfl | rfl
  · exact e17_0a σ
  · exact e17_0b σ
theorem ke17_20 {q : Nat} (hq : q = 1 ∨ q = 4) (σ : hbM) (x2 : Int32) (v3 : Value) : hb_run hbSH 17 (20, [.ref 43, .ref q, .int x2, v3], [], σ) = if ((3 : Int32) ≤ x2) then (hb_ci (hb_ev hbSH 21 [.ref 43] σ) (fun y79 σ79 => if (¬ y79 = (-1000000 : Int32)) then (hb_run hbSH 17 (92, [.ref 43, .ref q, .int x2, v3], [.int 3, .ref 43], σ79)) else (hb_run hbSH 17 (92, [.ref 43, .ref q, .int x2, v3], [.int 1, .ref 43], σ79)))) else (hb_ci (hb_ev hbSH 20 [.ref 43] σ) (fun y26 σ26 => if (¬ y26 = (-1000000 : Int32)) then (hb_cv (hb_ev hbSH 12 [.ref q, .int x2, .int y26] σ26) (fun σ41 => if ((σ41 43 6) = (4 : Int32)) then (hb_cv (hb_ev hbSH 26 [.ref 43] σ41) (fun σ68 => hb_run hbSH 17 (20, [.ref 43, .ref q, .int (x2 + (1 : Int32)), .int y26], [], σ68))) else (hb_ci (hb_ev hbSH 24 [.ref 43] (hb_up σ41 q 3 ((σ41 q 3) + (1 : Int32)))) (fun y63 σ63 => hb_g [hb_01 y63] (some (some (.int y63), σ63)))))) else (some (some (.int 0), σ26)))) := by
  rcases hq with rfl | rfl
  · exact e17_20a σ x2 v3
  · exact e17_20b σ x2 v3
theorem ke17_92 {q : Nat} (hq : q = 1 ∨ q = 4) (σ : hbM) (x2 : Int32) (v3 : Value) (s0 : Int32) : hb_run hbSH 17 (92, [.ref 43, .ref q, .int x2, v3], [.int s0, .ref 43], σ) = hb_ci (hb_ev hbSH 25 [.ref 43, .int s0] σ) (fun y92 σ92 => hb_g [hb_01 y92] (some (some (.int y92), σ92))) := by
  rcases hq with rfl | rfl
  · exact e17_92a σ x2 v3 s0
  · exact e17_92b σ x2 v3 s0
theorem kv12 {q : Nat} (hq : q = 1 ∨ q = 4) (σ : hbM) (x1 : Int32) (x2 : Int32) : hb_ev hbSH 12 [.ref q, .int x1, .int x2] σ = hb_run hbSH 12 (0, [.ref q, .int x1, .int x2], [], σ) := by
  rcases hq with rfl | rfl
  · exact v12a σ x1 x2
  · exact v12b σ x1 x2
theorem ke12_0 {q : Nat} (hq : q = 1 ∨ q = 4) (σ : hbM) (x1 : Int32) (x2 : Int32) : hb_run hbSH 12 (0, [.ref q, .int x1, .int x2], [], σ) = if ((4 : Int32) ≤ (σ q 3)) then (some (none, σ)) else (hb_ci (hb_ev hbSH 110 [.int x1, .int 3] σ) (fun y10 σ10 => if (y10 = (0 : Int32)) then (some (none, σ10)) else (hb_g [hb_in (((σ10 q 3) * (3 : Int32)) + x1) 12, hb_in (σ10 q 3) 4] (some (none, (hb_up (hb_up σ10 (q + 1) (Int32.toNatClampNeg (((σ10 q 3) * (3 : Int32)) + x1)) x2) (q + 2) (Int32.toNatClampNeg (σ10 q 3)) (x1 + (1 : Int32)))))))) := by
  rcases hq with rfl | rfl
  · exact e12_0a σ x1 x2
  · exact e12_0b σ x1 x2
