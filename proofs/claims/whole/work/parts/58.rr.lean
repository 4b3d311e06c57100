/-! the two rows of Through, in either order -/
def RR (R R' : Nat) : Prop := (R = 45 ∧ R' = 46) ∨ (R = 46 ∧ R' = 45)
theorem re53_0 {R R' : Nat} (hRR : RR R R') (σ : hbM) (x2 : Int32) (x3 : Int32) : hb_run hbSH 53 (0, [.ref 50, .ref R, .int x2, .int x3, .null, .null, .null], [], σ) = hb_run hbSH 53 (6, [.ref 50, .ref R, .int x2, .int x3, .int x2, .int 0, .null], [], σ) := by
  rcases hRR with ⟨rfl, rfl⟩ | ⟨rfl, rfl⟩
  · exact e53_0a σ x2 x3
  · exact e53_0b σ x2 x3
theorem re53_6 {R R' : Nat} (hRR : RR R R') (σ : hbM) (x2 : Int32) (x3 : Int32) (x4 : Int32) (x5 : Int32) (v6 : Value) : hb_run hbSH 53 (6, [.ref 50, .ref R, .int x2, .int x3, .int x4, .int x5, v6], [], σ) = if (x4 ≤ x5) then (some (some (.int x4), σ)) else (if ((17408 : Int32) ≤ x5) then (some (some (.int x4), σ)) else (hb_ci (hb_ev hbSH 55 [.ref 50] σ) (fun y22 σ22 => if (¬ y22 = (0 : Int32)) then (some (some (.int x4), σ22)) else (hb_g [hb_in x5 17408] (hb_ci (hb_ev hbSH 8 [.ref 36, .int (σ22 R (Int32.toNatClampNeg x5))] σ22) (fun y36 σ36 => if (¬ y36 = (-1000000 : Int32)) then (hb_run hbSH 53 (60, [.ref 50, .ref R, .int x2, .int x3, .int x4, .int x5, .int y36], [], σ36)) else (hb_g [hb_in x5 17408, decide (¬ (1024 : Int32) = 0)] (hb_cv (hb_ev hbSH 56 [.ref 50, .int ((σ36 R (Int32.toNatClampNeg x5)) - (σ36 R (Int32.toNatClampNeg x5)) / (1024 : Int32) * (1024 : Int32))] σ36) (fun σ57 => hb_run hbSH 53 (60, [.ref 50, .ref R, .int x2, .int x3, .int x4, .int x5, .int y36], [], σ57)))))))))) := by
  rcases hRR with ⟨rfl, rfl⟩ | ⟨rfl, rfl⟩
  · exact e53_6a σ x2 x3 x4 x5 v6
  · exact e53_6b σ x2 x3 x4 x5 v6
theorem re53_60 {R R' : Nat} (hRR : RR R R') (σ : hbM) (x2 : Int32) (x3 : Int32) (x4 : Int32) (x5 : Int32) (x6 : Int32) : hb_run hbSH 53 (60, [.ref 50, .ref R, .int x2, .int x3, .int x4, .int x5, .int x6], [], σ) = hb_ci (hb_ev hbSH 52 [.ref 50, .ref R, .int x4, .int x6, .int x3] σ) (fun y67 σ67 => hb_run hbSH 53 (6, [.ref 50, .ref R, .int x2, .int x3, .int y67, .int (x5 + (1 : Int32)), .int x6], [], σ67)) := by
  rcases hRR with ⟨rfl, rfl⟩ | ⟨rfl, rfl⟩
  · exact e53_60a σ x2 x3 x4 x5 x6
  · exact e53_60b σ x2 x3 x4 x5 x6
theorem re54_0 {R R' : Nat} (hRR : RR R R') (σ : hbM) (x2 : Int32) (x4 : Int32) : hb_run hbSH 54 (0, [.ref 50, .ref R, .int x2, .ref R', .int x4, .null, .null, .null], [], σ) = hb_run hbSH 54 (6, [.ref 50, .ref R, .int x2, .ref R', .int x4, .int 0, .int 0, .null], [], σ) := by
  rcases hRR with ⟨rfl, rfl⟩ | ⟨rfl, rfl⟩
  · exact e54_0a σ x2 x4
  · exact e54_0b σ x2 x4
theorem re54_6 {R R' : Nat} (hRR : RR R R') (σ : hbM) (x2 : Int32) (x4 : Int32) (x5 : Int32) (x6 : Int32) (v7 : Value) : hb_run hbSH 54 (6, [.ref 50, .ref R, .int x2, .ref R', .int x4, .int x5, .int x6, v7], [], σ) = if (x2 ≤ x6) then (some (some (.int x5), σ)) else (hb_ci (hb_ev hbSH 55 [.ref 50] σ) (fun y13 σ13 => if (¬ y13 = (0 : Int32)) then (some (some (.int x5), σ13)) else (hb_run hbSH 54 (22, [.ref 50, .ref R, .int x2, .ref R', .int x4, .int x5, .int x6, .int 0], [], σ13)))) := by
  rcases hRR with ⟨rfl, rfl⟩ | ⟨rfl, rfl⟩
  · exact e54_6a σ x2 x4 x5 x6 v7
  · exact e54_6b σ x2 x4 x5 x6 v7
theorem re54_22 {R R' : Nat} (hRR : RR R R') (σ : hbM) (x2 : Int32) (x4 : Int32) (x5 : Int32) (x6 : Int32) (x7 : Int32) : hb_run hbSH 54 (22, [.ref 50, .ref R, .int x2, .ref R', .int x4, .int x5, .int x6, .int x7], [], σ) = if ((4 : Int32) ≤ x7) then (hb_run hbSH 54 (6, [.ref 50, .ref R, .int x2, .ref R', .int x4, .int x5, .int (x6 + (1 : Int32)), .int x7], [], σ)) else (hb_g [hb_in x6 17408] (hb_ci (hb_ev hbSH 10 [.ref 36, .int (σ R (Int32.toNatClampNeg x6)), .int x7] σ) (fun y42 σ42 => hb_ci (hb_ev hbSH 52 [.ref 50, .ref R', .int x5, .int y42, .int x4] σ42) (fun y47 σ47 => hb_run hbSH 54 (22, [.ref 50, .ref R, .int x2, .ref R', .int x4, .int y47, .int x6, .int (x7 + (1 : Int32))], [], σ47))))) := by
  rcases hRR with ⟨rfl, rfl⟩ | ⟨rfl, rfl⟩
  · exact e54_22a σ x2 x4 x5 x6 x7
  · exact e54_22b σ x2 x4 x5 x6 x7
theorem rv53 {R R' : Nat} (hRR : RR R R') (σ : hbM) (x2 : Int32) (x3 : Int32) : hb_ev hbSH 53 [.ref 50, .ref R, .int x2, .int x3] σ = hb_run hbSH 53 (0, [.ref 50, .ref R, .int x2, .int x3, .null, .null, .null], [], σ) := by
  rcases hRR with ⟨rfl, rfl⟩ | ⟨rfl, rfl⟩
  · exact v53a σ x2 x3
  · exact v53b σ x2 x3
theorem rv54 {R R' : Nat} (hRR : RR R R') (σ : hbM) (x2 : Int32) (x4 : Int32) : hb_ev hbSH 54 [.ref 50, .ref R, .int x2, .ref R', .int x4] σ = hb_run hbSH 54 (0, [.ref 50, .ref R, .int x2, .ref R', .int x4, .null, .null, .null], [], σ) := by
  rcases hRR with ⟨rfl, rfl⟩ | ⟨rfl, rfl⟩
  · exact v54a σ x2 x4
  · exact v54b σ x2 x4
theorem re50_71 {R R' : Nat} (hRR : RR R R') (σ : hbM) (x1 : Int32) (x2 : Int32) (x3 : Int32) (x4 : Int32) (x5 : Int32) (x8 : Int32) (x9 : Int32) (x10 : Int32) : hb_run hbSH 50 (71, [.ref 50, .int x1, .int x2, .int x3, .int x4, .int x5, .ref R, .ref R', .int x8, .int x9, .int x10], [], σ) = if (x8 ≤ x10) then (if (x2 ≤ x9) then (hb_run hbSH 50 (139, [.ref 50, .int x1, .int x2, .int x3, .int x4, .int x5, .ref R, .ref R', .int x8, .int x9, .int x10], [.int 0], σ)) else (hb_ci (hb_ev hbSH 54 [.ref 50, .ref R, .int x8, .ref R', .int (x9 + (1 : Int32))] σ) (fun y132 σ132 => hb_run hbSH 50 (139, [.ref 50, .int x1, .int x2, .int x3, .int x4, .int x5, .ref R, .ref R', .int x8, .int x9, .int x10], [.int y132], σ132)))) else (if (¬ x3 = (4 : Int32)) then (if (x2 ≤ x9) then (hb_run hbSH 50 (139, [.ref 50, .int x1, .int x2, .int x3, .int x4, .int x5, .ref R, .ref R', .int x8, .int x9, .int x10], [.int 0], σ)) else (hb_ci (hb_ev hbSH 54 [.ref 50, .ref R, .int x8, .ref R', .int (x9 + (1 : Int32))] σ) (fun y132 σ132 => hb_run hbSH 50 (139, [.ref 50, .int x1, .int x2, .int x3, .int x4, .int x5, .ref R, .ref R', .int x8, .int x9, .int x10], [.int y132], σ132)))) else (hb_g [hb_in x10 17408] (hb_ci (hb_ev hbSH 57 [.ref 50, .int (σ R (Int32.toNatClampNeg x10))] σ) (fun y91 σ91 => if (¬ y91 = (3 : Int32)) then (hb_run hbSH 50 (103, [.ref 50, .int x1, .int x2, .int x3, .int x4, .int x5, .ref R, .ref R', .int x8, .int x9, .int x10], [.int 0, .int x5], σ91)) else (hb_run hbSH 50 (103, [.ref 50, .int x1, .int x2, .int x3, .int x4, .int x5, .ref R, .ref R', .int x8, .int x9, .int x10], [.int 1, .int x5], σ91)))))) := by
  rcases hRR with ⟨rfl, rfl⟩ | ⟨rfl, rfl⟩
  · exact e50_71_0 σ x1 x2 x3 x4 x5 x8 x9 x10
  · exact e50_71_1 σ x1 x2 x3 x4 x5 x8 x9 x10
theorem re50_103 {R R' : Nat} (hRR : RR R R') (σ : hbM) (x1 : Int32) (x2 : Int32) (x3 : Int32) (x4 : Int32) (x5 : Int32) (x8 : Int32) (x9 : Int32) (x10 : Int32) (s0 : Int32) (s1 : Int32) : hb_run hbSH 50 (103, [.ref 50, .int x1, .int x2, .int x3, .int x4, .int x5, .ref R, .ref R', .int x8, .int x9, .int x10], [.int s0, .int s1], σ) = hb_ci (hb_ev hbSH 111 [.int s0] σ) (fun y103 σ103 => hb_run hbSH 50 (71, [.ref 50, .int x1, .int x2, .int x3, .int x4, .int (s1 + y103), .ref R, .ref R', .int x8, .int x9, .int (x10 + (1 : Int32))], [], σ103)) := by
  rcases hRR with ⟨rfl, rfl⟩ | ⟨rfl, rfl⟩
  · exact e50_103_0 σ x1 x2 x3 x4 x5 x8 x9 x10 s0 s1
  · exact e50_103_1 σ x1 x2 x3 x4 x5 x8 x9 x10 s0 s1
theorem re50_139 {R R' : Nat} (hRR : RR R R') (σ : hbM) (x1 : Int32) (x2 : Int32) (x3 : Int32) (x4 : Int32) (x5 : Int32) (x8 : Int32) (x9 : Int32) (x10 : Int32) (s0 : Int32) : hb_run hbSH 50 (139, [.ref 50, .int x1, .int x2, .int x3, .int x4, .int x5, .ref R, .ref R', .int x8, .int x9, .int x10], [.int s0], σ) = hb_run hbSH 50 (43, [.ref 50, .int x1, .int x2, .int x3, .int x4, .int x5, .ref R', .ref R, .int s0, .int (x9 + (1 : Int32)), .ref R], [], σ) := by
  rcases hRR with ⟨rfl, rfl⟩ | ⟨rfl, rfl⟩
  · exact e50_139_0 σ x1 x2 x3 x4 x5 x8 x9 x10 s0
  · exact e50_139_1 σ x1 x2 x3 x4 x5 x8 x9 x10 s0
theorem re50_43 {R R' : Nat} (hRR : RR R R') (σ : hbM) (x1 : Int32) (x2 : Int32) (x3 : Int32) (x4 : Int32) (x5 : Int32) (x8 : Int32) (x9 : Int32) : hb_run hbSH 50 (43, [.ref 50, .int x1, .int x2, .int x3, .int x4, .int x5, .ref R, .ref R', .int x8, .int x9, .ref R'], [], σ) = if (x2 < x9) then (if (x3 = 0) then (some (some (.int x4), σ)) else (if (x3 = 1) then (hb_ci (hb_ev hbSH 111 [.int (σ 50 6)] σ) (fun y199 σ199 => some (some (.int y199), σ199))) else (if (x3 = 2) then (some (some (.int (σ 50 7)), σ)) else (if (x3 = 3) then (some (some (.int (σ 50 8)), σ)) else (some (some (.int x5), σ)))))) else (hb_ci (hb_ev hbSH 53 [.ref 50, .ref R, .int x8, .int x9] σ) (fun y56 σ56 => hb_run hbSH 50 (71, [.ref 50, .int x1, .int x2, .int x3, .int (x4 + y56), .int x5, .ref R, .ref R', .int y56, .int x9, .int 0], [], σ56))) := by
  rcases hRR with ⟨rfl, rfl⟩ | ⟨rfl, rfl⟩
  · exact e50_43_0 σ x1 x2 x3 x4 x5 x8 x9
  · exact e50_43_2 σ x1 x2 x3 x4 x5 x8 x9
