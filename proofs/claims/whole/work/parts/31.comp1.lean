/-! WHAT THE SMALL METHODS OF THE CLASS ANSWER -/
theorem s110 (rest : List hbS) (σ : hbM) (x y : Int32) : hb_ev (hbSH0 ++ rest) 110 [.int x, .int y] σ = some (some (.int (hbb (decide (0 ≤ x ∧ x < y)))), σ) := by
  rw [v110, e110_0]
  have h1 : (x < 0) ↔ ¬ (0 ≤ x) := by rw [Int32.lt_iff_toInt_lt, Int32.le_iff_toInt_le]; omega
  have h2 : (y ≤ x) ↔ ¬ (x < y) := by rw [Int32.lt_iff_toInt_lt, Int32.le_iff_toInt_le]; omega
  by_cases a : 0 ≤ x <;> by_cases b : x < y <;> simp [h1, h2, a, b, hbb]
theorem s111 (rest : List hbS) (σ : hbM) (b : Bool) : hb_ev (hbSH0 ++ rest) 111 [.int (hbb b)] σ = some (some (.int (hbb b)), σ) := by
  rw [v111, e111_0]
  cases b <;> simp [hbb]
theorem s109 (σ : hbM) (x : Int32) : hb_ev hbSH 109 [.int x] σ = some (some (.int (hbb (decide (0 ≤ x ∧ x < 1024)))), σ) := by
  rw [v109, e109_0, s110, hb_ci_s]
  simp [hb_g, hbb_01]
theorem s108 (σ : hbM) (x : Int32) : hb_ev hbSH 108 [.int x] σ = some (some (.int (hbb (decide (0 ≤ x ∧ x < 8)))), σ) := by
  rw [v108, e108_0, s110, hb_ci_s]
  simp [hb_g, hbb_01]
