/-! the two rows of lines -/
theorem rv13 {c : Nat} (hc : c = 1 ∨ c = 4) (rest : List hbS) (σ : hbM) (x1 : Int32) : hb_ev (hbSH0 ++ rest) 13 [.ref c, .int x1] σ = hb_run (hbSH0 ++ rest) 13 (0, [.ref c, .int x1, .null, .null, .null, .null], [], σ) := by
  rcases hc with rfl | rfl
  · exact v13a rest σ x1
  · exact v13b rest σ x1
theorem re13_0 {c : Nat} (hc : c = 1 ∨ c = 4) (rest : List hbS) (σ : hbM) (x1 : Int32) : hb_run (hbSH0 ++ rest) 13 (0, [.ref c, .int x1, .null, .null, .null, .null], [], σ) = hb_run (hbSH0 ++ rest) 13 (4, [.ref c, .int x1, .int 0, .int 0, .null, .null], [], σ) := by
  rcases hc with rfl | rfl
  · exact e13_0a rest σ x1
  · exact e13_0b rest σ x1
theorem re13_4 {c : Nat} (hc : c = 1 ∨ c = 4) (rest : List hbS) (σ : hbM) (x1 : Int32) (x2 : Int32) (x3 : Int32) (v4 : Value) (v5 : Value) : hb_run (hbSH0 ++ rest) 13 (4, [.ref c, .int x1, .int x2, .int x3, v4, v5], [], σ) = if ((σ c 2) ≤ x3) then (some (some (.int x2), σ)) else (hb_run (hbSH0 ++ rest) 13 (21, [.ref c, .int x1, .int x2, .int x3, .int (x3 * (3 : Int32)), .int (x3 * (3 : Int32))], [], σ)) := by
  rcases hc with rfl | rfl
  · exact e13_4a rest σ x1 x2 x3 v4 v5
  · exact e13_4b rest σ x1 x2 x3 v4 v5
theorem re13_21 {c : Nat} (hc : c = 1 ∨ c = 4) (rest : List hbS) (σ : hbM) (x1 : Int32) (x2 : Int32) (x3 : Int32) (x4 : Int32) (x5 : Int32) : hb_run (hbSH0 ++ rest) 13 (21, [.ref c, .int x1, .int x2, .int x3, .int x4, .int x5], [], σ) = hb_g [hb_in x3 4] (if ((x4 + (σ (c + 2) (Int32.toNatClampNeg x3))) ≤ x5) then (hb_run (hbSH0 ++ rest) 13 (55, [.ref c, .int x1, .int x2, .int x3, .int x4, .int x5], [], σ)) else (hb_g [hb_in x5 12] (hb_ci (hb_ev (hbSH0 ++ rest) 70 [.int (σ (c + 1) (Int32.toNatClampNeg x5)), .int x1] σ) (fun y43 σ43 => if (y43 = (0 : Int32)) then (hb_run (hbSH0 ++ rest) 13 (55, [.ref c, .int x1, .int x2, .int x3, .int x4, .int x5], [], σ43)) else (hb_run (hbSH0 ++ rest) 13 (21, [.ref c, .int x1, .int x2, .int x3, .int x4, .int (x5 + (1 : Int32))], [], σ43)))))) := by
  rcases hc with rfl | rfl
  · exact e13_21a rest σ x1 x2 x3 x4 x5
  · exact e13_21b rest σ x1 x2 x3 x4 x5
theorem re13_55 {c : Nat} (hc : c = 1 ∨ c = 4) (rest : List hbS) (σ : hbM) (x1 : Int32) (x2 : Int32) (x3 : Int32) (x4 : Int32) (x5 : Int32) : hb_run (hbSH0 ++ rest) 13 (55, [.ref c, .int x1, .int x2, .int x3, .int x4, .int x5], [], σ) = hb_g [hb_in x3 4] (if (¬ x5 = (x4 + (σ (c + 2) (Int32.toNatClampNeg x3)))) then (hb_run (hbSH0 ++ rest) 13 (75, [.ref c, .int x1, .int x2, .int x3, .int x4, .int x5], [.int 0, .int x2], σ)) else (hb_run (hbSH0 ++ rest) 13 (75, [.ref c, .int x1, .int x2, .int x3, .int x4, .int x5], [.int 1, .int x2], σ))) := by
  rcases hc with rfl | rfl
  · exact e13_55a rest σ x1 x2 x3 x4 x5
  · exact e13_55b rest σ x1 x2 x3 x4 x5
theorem re13_75 {c : Nat} (hc : c = 1 ∨ c = 4) (rest : List hbS) (σ : hbM) (x1 : Int32) (x2 : Int32) (x3 : Int32) (x4 : Int32) (x5 : Int32) (s0 : Int32) (s1 : Int32) : hb_run (hbSH0 ++ rest) 13 (75, [.ref c, .int x1, .int x2, .int x3, .int x4, .int x5], [.int s0, .int s1], σ) = hb_ci (hb_ev (hbSH0 ++ rest) 111 [.int s0] σ) (fun y75 σ75 => hb_run (hbSH0 ++ rest) 13 (4, [.ref c, .int x1, .int (s1 + y75), .int (x3 + (1 : Int32)), .int x4, .int x5], [], σ75)) := by
  rcases hc with rfl | rfl
  · exact e13_75a rest σ x1 x2 x3 x4 x5 s0 s1
  · exact e13_75b rest σ x1 x2 x3 x4 x5 s0 s1
