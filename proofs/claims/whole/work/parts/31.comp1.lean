/-! WHAT THE SMALL METHODS OF THE CLASS ANSWER -/
theorem s110 (rest : List hbS) (σ : hbM) (x y : Int32) : hb_ev (hbSH0 ++ rest) 110 [.int x, .int y] σ = some (some (.int (hbb (decide (0 ≤ x ∧ x < y)))), σ) := by
  rw [v110, e110_0]
  have h1 : (x < 0) ↔ ¬ (0 ≤ x) := by rw [Int32.lt_iff_toInt_lt, Int32.le_iff_toInt_le]; omega
  have h2 : (y ≤ x) ↔ ¬ (x < y) := by rw [Int32.lt_iff_toInt_lt, Int32.le_iff_toInt_le]; omega
  by_cases a : 0 ≤ x <;> by_cases b : x < y <;> simp [h1, h2, a, b, hbb]
theorem s111 (rest : List hbS) (σ : hbM) (b : Bool) : hb_ev (hbSH0 ++ rest) 111 [.int (hbb b)] σ = some (some (.int (hbb b)), σ) := by
  rw [v111, e111_0]
  cases b <;> simp [hbb]
theorem s109 (σ : hbM) (x : Int32) : hb_ev hbSH 109 [.int x] σ = some (some (.int (hbb (decide (0 ≤ x ∧ x < 1024)))), σ) := by
  rw [v109, e109_0, s110, hb_ci_s]
  simp [hb_g, hbb_01]
theorem s108 (σ : hbM) (x : Int32) : hb_ev hbSH 108 [.int x] σ = some (some (.int (hbb (decide (0 ≤ x ∧ x < 8)))), σ) := by
  rw [v108, e108_0, s110, hb_ci_s]
  simp [hb_g, hbb_01]
/-- an int within 0 .. n - 1 -/
theorem q_dec (x : Int32) (n : Nat) (hn : n < 2147483648) : decide (0 ≤ x ∧ x < nI n) = hb_in x n := by
  by_cases h : 0 ≤ x
  · obtain ⟨j, hj, rfl⟩ := nI_of (x := x) (by rw [Int32.lt_iff_toInt_lt]; rw [Int32.le_iff_toInt_le] at h; omega)
    rw [q_in (by omega)]
    simp only [q_lt (a := j) (b := n) (by omega) (by omega), h, true_and]
  · have h1 : x < 0 := by rw [Int32.lt_iff_toInt_lt]; rw [Int32.le_iff_toInt_le] at h; omega
    simp [hb_in, h, h1]
/-! the works, the steps: numbers -/
def tn (σ : hbM) (c i : Nat) : Nat := (σ c i).toNatClampNeg
def gHold (c st : Nat) : Bool :=
  if c / 64 = 0 then decide (st / 2 ^ (c / 8 % 8) % 2 = 1)
  else if c / 64 = 1 then decide (st / 2 ^ (c / 8 % 8) % 2 = 0)
  else if c / 64 = 2 then decide (c % 8 < st / 2 ^ (4 + 3 * (c / 8 % 8)) % 8)
  else decide (st / 2 ^ (4 + 3 * (c / 8 % 8)) % 8 < c % 8)
theorem s70 (rest : List hbS) (σ : hbM) {c st : Nat} (hc : c < 256) (hs : st < 1024) : hb_ev (hbSH0 ++ rest) 70 [.int (nI c), .int (nI st)] σ = some (some (.int (hbb (gHold c st))), σ) := by
  rw [v70, e70_0]
  simp only [q_0, q_1, q_2, q_3, q_4, q_6, q_7]
  simp (disch := omega) only [q_shrn, q_and, q_a7, q_mul, q_add, q_shr, q_a1, q_eq, q_le, Nat.reducePow]
  unfold gHold hbb
  by_cases h0 : c / 64 = 0
  · by_cases h1 : st / 2 ^ (c / 8 % 8) % 2 = 1 <;> simp [h0, h1, q_0, q_1]
  · by_cases h2 : c / 64 = 1
    · by_cases h1 : st / 2 ^ (c / 8 % 8) % 2 = 0 <;> simp [h2, h1, q_0, q_1]
    · by_cases h3 : c / 64 = 2
      · by_cases h1 : c % 8 < st / 2 ^ (4 + 3 * (c / 8 % 8)) % 8
        · simp [h3, h1, q_0, q_1, Nat.not_le.mpr h1]
        · simp [h3, h1, q_0, q_1, Nat.not_lt.mp h1]
      · by_cases h1 : st / 2 ^ (4 + 3 * (c / 8 % 8)) % 8 < c % 8
        · simp [h0, h2, h3, h1, q_0, q_1, Nat.not_le.mpr h1]
        · simp [h0, h2, h3, h1, q_0, q_1, Nat.not_lt.mp h1]
/-- the numbers by which hands go on: how many steps, acts, targets, conds, the state behind a tick, bars, likes -/
abbrev hbGP : Type := Nat × (Nat → Nat) × (Nat → Nat) × (Nat → Nat) × (Nat → Nat) × Nat × (Nat → Option Nat)
def gBar (bars st v : Nat) : Bool := !decide ((bars / 2 ^ (4 * v) % 16) &&& st = 0)
def gDone (T : Nat → Nat) (bars st v : Nat) (op : Bool) : Nat := if op = true then T (if gBar bars st v = true then st else st ||| 2 ^ v) else T (st &&& (2 ^ v ^^^ 4294967295))
def gOn (P : hbGP) (p : Nat) : Option Nat :=
  if p / 1024 < P.1 then
    (if P.2.1 (p / 1024) = 0 then some (1024 * (p / 1024 + 1) + gDone P.2.2.2.2.1 P.2.2.2.2.2.1 (p % 1024) (P.2.2.1 (p / 1024)) true)
    else if P.2.1 (p / 1024) = 1 then some (1024 * (p / 1024 + 1) + gDone P.2.2.2.2.1 P.2.2.2.2.2.1 (p % 1024) (P.2.2.1 (p / 1024)) false)
    else if P.2.1 (p / 1024) = 2 then (if gHold (P.2.2.2.1 (p / 1024)) (p % 1024) = true then some (1024 * (p / 1024 + 1) + p % 1024) else some (1024 * (p / 1024) + P.2.2.2.2.1 (p % 1024)))
    else if P.2.1 (p / 1024) = 3 then (if gHold (P.2.2.2.1 (p / 1024)) (p % 1024) = true then some (1024 * P.2.2.1 (p / 1024) + p % 1024) else some (1024 * (p / 1024 + 1) + p % 1024))
    else if P.2.1 (p / 1024) = 4 then some (1024 * P.2.2.1 (p / 1024) + p % 1024)
    else none)
  else none
def gTk (P : hbGP) (p : Nat) : Bool := decide (p / 1024 < P.1) && (decide (P.2.1 (p / 1024) < 2) || (decide (P.2.1 (p / 1024) = 2) && !gHold (P.2.2.2.1 (p / 1024)) (p % 1024)))
def gSl (P : hbGP) (p k : Nat) : Option Nat :=
  if p / 1024 < P.1 ∧ P.2.1 (p / 1024) < 3 then
    (if k = 0 then some (1024 * (p / 1024 + 1) + p % 1024)
    else if k = 1 then (if P.2.1 (p / 1024) < 2 then (match P.2.2.2.2.2.2 (P.2.2.1 (p / 1024)) with
      | none => none
      | some v => some (1024 * (p / 1024 + 1) + gDone P.2.2.2.2.1 P.2.2.2.2.2.1 (p % 1024) v (decide (P.2.1 (p / 1024) = 0)))) else none)
    else if k = 2 then (if P.2.1 (p / 1024) = 2 ∧ gHold (P.2.2.2.1 (p / 1024)) (p % 1024) = false then some (1024 * (p / 1024 + 1) + P.2.2.2.2.1 (p % 1024)) else none)
    else (if p / 1024 = 0 then none else some (1024 * (p / 1024 - 1) + p % 1024)))
  else none
/-- the numbers as the class holds them -/
def gP (σ : hbM) : hbGP := (tn σ 31 4, tn σ 32, tn σ 33, tn σ 34, tn σ 10, tn σ 0 10, fun v => if σ 37 v = hbNO then none else some (tn σ 37 v))
def gI (σ : hbM) : Prop := hb_in (σ 31 4) 17 = true ∧ (∀ i, i < tn σ 31 4 → hb_in (σ 32 i) 6 = true ∧ hb_in (σ 33 i) 16 = true ∧ (tn σ 32 i < 2 → tn σ 33 i < 4) ∧ hb_in (σ 34 i) 256 = true) ∧ (∀ st, st < 1024 → hb_in (σ 10 st) 1024 = true) ∧ hb_in (σ 0 10) 65536 = true ∧ ∀ v, v < 4 → σ 37 v = hbNO ∨ hb_in (σ 37 v) 4 = true
theorem s32 (σ : hbM) (h : hb_in (σ 31 4) 17 = true) {k : Nat} (hk : k < 2147483648) : hb_ev hbSH 32 [.ref 31, .int (nI k)] σ = some (some (.int (hbb (decide (k < tn σ 31 4)))), σ) := by
  obtain ⟨e, hn⟩ := q_nn h (by omega)
  rw [v32, e32_0]
  have h1 : ¬ nI k < 0 := nI_pos (by omega)
  rw [if_neg h1]
  rw [e]
  simp (disch := omega) only [q_le, q_cl]
  unfold tn
  by_cases h2 : (σ 31 4).toNatClampNeg ≤ k
  · simp [h2, hbb, Nat.not_lt.mpr h2]
  · simp [h2, hbb, Nat.not_le.mp h2]
theorem s33 (σ : hbM) {k : Nat} (hk : k < 16) (h : hb_in (σ 32 k) 6 = true) : hb_ev hbSH 33 [.ref 31, .int (nI k)] σ = some (some (.int (hbb (decide (tn σ 32 k < 2)))), σ) := by
  obtain ⟨e, hn⟩ := q_nn h (by omega)
  rw [v33, e33_0]
  simp (disch := omega) only [q_inT, q_cl, hb_g_t, hb_g_nil]
  unfold tn
  rw [e]
  rw [q_cl (by omega)]
  generalize (σ 32 k).toNatClampNeg = a at hn
  rcases (show a = 0 ∨ a = 1 ∨ a = 2 ∨ a = 3 ∨ a = 4 ∨ a = 5 by omega) with rfl | rfl | rfl | rfl | rfl | rfl <;> rfl
theorem s71 (σ : hbM) (h : ∀ st, st < 1024 → hb_in (σ 10 st) 1024 = true) (hb : hb_in (σ 0 10) 65536 = true) {st v : Nat} (hs : st < 1024) (hv : v < 4) (op : Bool) : hb_ev hbSH 71 [.ref 0, .int (nI st), .int (nI v), .int (hbb op)] σ = some (some (.int (nI (gDone (tn σ 10) (tn σ 0 10) st v op))), σ) := by
  obtain ⟨eb, hbn⟩ := q_nn hb (by omega)
  have hp : 2 ^ v < 1024 := by rcases (show v = 0 ∨ v = 1 ∨ v = 2 ∨ v = 3 by omega) with rfl | rfl | rfl | rfl <;> decide
  have hor : st ||| 2 ^ v < 1024 := Nat.or_lt_two_pow (n := 10) hs hp
  have hand : st &&& (2 ^ v ^^^ 4294967295) < 1024 := Nat.lt_of_le_of_lt Nat.and_le_left hs
  rw [v71, e71_0]
  simp only [q_m1]
  simp only [q_0, q_1, q_4, q_15]
  rw [eb]
  have hm : ∀ y, (tn σ 0 10 / 2 ^ (4 * v) % 16) &&& y < 2147483648 := fun y => by
    have := @Nat.and_le_left (tn σ 0 10 / 2 ^ (4 * v) % 16) y
    omega
  have hbn' : tn σ 0 10 < 65536 := hbn
  have e0 : (σ 0 10).toNatClampNeg = tn σ 0 10 := rfl
  rw [e0]
  simp (disch := first | omega | exact hm _) only [q_mul, q_shr, q_and, q_a15, q_shl, q_or, q_xor, Nat.one_mul, q_inT, q_cl, hb_g_t, hb_g_nil, q_eq]
  cases op with
  | false =>
    simp only [hbb, gDone, Bool.false_eq_true, if_false, q_0, not_true_eq_false]
    obtain ⟨e1, -⟩ := q_nn (h _ hand) (by omega)
    rw [e1]; rfl
  | true =>
    simp only [hbb, gDone, if_true, q_1, q_eq (a := 1) (b := 0) (by omega) (by omega), gBar]
    by_cases hz : (tn σ 0 10 / 2 ^ (4 * v) % 16) &&& st = 0
    · simp only [hz, if_true, decide_true, Bool.not_true, Bool.false_eq_true, if_false]
      obtain ⟨e1, -⟩ := q_nn (h _ hor) (by omega)
      rw [e1]; rfl
    · simp only [hz, if_false, decide_false, Bool.not_false, if_true]
      obtain ⟨e1, -⟩ := q_nn (h _ hs) (by omega)
      rw [e1]; rfl

theorem gDone_lt {σ : hbM} (h : ∀ st, st < 1024 → hb_in (σ 10 st) 1024 = true) (bars : Nat) {st v : Nat} (hs : st < 1024) (hv : v < 4) (op : Bool) : gDone (tn σ 10) bars st v op < 1024 := by
  have hp : 2 ^ v < 1024 := by rcases (show v = 0 ∨ v = 1 ∨ v = 2 ∨ v = 3 by omega) with rfl | rfl | rfl | rfl <;> decide
  have hor : st ||| 2 ^ v < 1024 := Nat.or_lt_two_pow (n := 10) hs hp
  have hand : st &&& (2 ^ v ^^^ 4294967295) < 1024 := Nat.lt_of_le_of_lt Nat.and_le_left hs
  unfold gDone
  split
  · split
    · exact (q_nn (h _ hs) (by omega)).2
    · exact (q_nn (h _ hor) (by omega)).2
  · exact (q_nn (h _ hand) (by omega)).2
theorem gP_at (σ : hbM) : (gP σ).1 = tn σ 31 4 ∧ (gP σ).2.1 = tn σ 32 ∧ (gP σ).2.2.1 = tn σ 33 ∧ (gP σ).2.2.2.1 = tn σ 34 ∧ (gP σ).2.2.2.2.1 = tn σ 10 ∧ (gP σ).2.2.2.2.2.1 = tn σ 0 10 := ⟨rfl, rfl, rfl, rfl, rfl, rfl⟩
/-- goingOn -/
theorem s8 {σ : hbM} (h : gI σ) {p : Nat} (hp : p < 17408) : hb_ev hbSH 8 [.ref 36, .int (nI p)] σ = some (some (.int (hbo (gOn (gP σ) p))), σ) := by
  obtain ⟨h1, h2, h3, h4, h5⟩ := h
  have hn := (q_nn h1 (by omega)).2
  rw [v8, e8_0]
  simp only [q_1024]
  have d1 : decide (¬ nI 1024 = 0) = true := by decide
  simp (disch := omega) only [d1, hb_g_t, hb_g_nil, q_div, q_rem]
  rw [s32 σ h1 (by omega), hb_ci_s]
  by_cases hk : p / 1024 < tn σ 31 4
  · obtain ⟨a1, a2, a3, a4⟩ := h2 _ hk
    have hk16 : p / 1024 < 16 := by unfold tn at hk; omega
    obtain ⟨ea, ha⟩ := q_nn a1 (by omega)
    obtain ⟨et, ht⟩ := q_nn a2 (by omega)
    obtain ⟨ec, hc⟩ := q_nn a4 (by omega)
    have fa : (σ 32 (p / 1024)).toNatClampNeg = tn σ 32 (p / 1024) := rfl
    have ft : (σ 33 (p / 1024)).toNatClampNeg = tn σ 33 (p / 1024) := rfl
    have fc : (σ 34 (p / 1024)).toNatClampNeg = tn σ 34 (p / 1024) := rfl
    rw [fa] at ea ha
    rw [ft] at et ht
    rw [fc] at ec hc
    simp only [hk, decide_true, hbb_t]
    rw [if_pos (by decide)]
    simp (disch := omega) only [q_inT, q_cl, hb_g_t, hb_g_nil]
    rw [ec, s70 hbSH1 σ hc (by omega), hb_ci_s, et, ea]
    unfold gOn
    simp only [gP_at, hk, if_true]
    generalize hA : tn σ 32 (p / 1024) = a at ha a3
    simp only [q_0, q_1, q_2, q_3, q_4]
    rcases (show a = 0 ∨ a = 1 ∨ a = 2 ∨ a = 3 ∨ a = 4 ∨ a = 5 by omega) with rfl | rfl | rfl | rfl | rfl | rfl
    · simp (disch := omega) only [q_eq, if_true]
      have := s71 σ h3 h4 (st := p % 1024) (v := tn σ 33 (p / 1024)) (by omega) (a3 (by omega)) true
      simp only [hbb_t, q_1] at this
      rw [this, hb_ci_s]
      have hg := gDone_lt h3 (tn σ 0 10) (st := p % 1024) (by omega) (a3 (by omega)) true
      simp (disch := omega) only [q_add, q_sub, hbo]
      exact q_res _ (by omega)
    · simp (disch := omega) only [q_eq, if_true, Nat.reduceEqDiff, if_false]
      have := s71 σ h3 h4 (st := p % 1024) (v := tn σ 33 (p / 1024)) (by omega) (a3 (by omega)) false
      simp only [hbb_f, q_0] at this
      rw [this, hb_ci_s]
      have hg := gDone_lt h3 (tn σ 0 10) (st := p % 1024) (by omega) (a3 (by omega)) false
      simp (disch := omega) only [q_add, q_sub, hbo]
      exact q_res _ (by omega)
    · simp (disch := omega) only [q_eq, if_true, Nat.reduceEqDiff, if_false]
      obtain ⟨e1, b1⟩ := q_nn (h3 (p % 1024) (by omega)) (by omega)
      cases gHold (tn σ 34 (p / 1024)) (p % 1024) with
      | true =>
        simp (disch := omega) only [hbb_t, q_1, q_eq, Nat.reduceEqDiff, if_false, if_true, q_add, hbo]
        exact q_res _ (by omega)
      | false =>
        simp (disch := omega) only [hbb_f, q_0, q_eq, if_true, q_inT, hb_g_t, hb_g_nil, q_cl, Bool.false_eq_true, if_false]
        rw [e1]
        have b2 : tn σ 10 (p % 1024) < 1024 := b1
        have f2 : (σ 10 (p % 1024)).toNatClampNeg = tn σ 10 (p % 1024) := rfl
        rw [f2]
        simp (disch := omega) only [q_add, q_sub, hbo]
        exact q_res _ (by omega)
    · simp (disch := omega) only [q_eq, if_true, Nat.reduceEqDiff, if_false]
      cases gHold (tn σ 34 (p / 1024)) (p % 1024) with
      | true =>
        simp (disch := omega) only [hbb_t, q_1, q_eq, Nat.reduceEqDiff, if_false, if_true, q_add, q_mul, hbo]
        exact q_res _ (by omega)
      | false =>
        simp (disch := omega) only [hbb_f, q_0, q_eq, if_true, Bool.false_eq_true, if_false, q_add, hbo]
        exact q_res _ (by omega)
    · simp (disch := omega) only [q_eq, if_true, Nat.reduceEqDiff, if_false, q_add, q_mul, hbo]
      exact q_res _ (by omega)
    · simp (disch := omega) only [q_eq, if_true, Nat.reduceEqDiff, if_false, hbo]
      rfl
  · unfold gOn
    simp only [gP_at, hk, decide_false, hbb_f, if_false, hbo]
    rfl

/-- ticksGoingOn -/
theorem s9 {σ : hbM} (h : gI σ) {p : Nat} (hp : p < 17408) : hb_ev hbSH 9 [.ref 36, .int (nI p)] σ = some (some (.int (hbb (gTk (gP σ) p))), σ) := by
  obtain ⟨h1, h2, h3, h4, h5⟩ := h
  have hn := (q_nn h1 (by omega)).2
  rw [v9, e9_0]
  simp only [q_1024]
  have d1 : decide (¬ nI 1024 = 0) = true := by decide
  simp (disch := omega) only [d1, hb_g_t, hb_g_nil, q_div, q_rem]
  rw [s32 σ h1 (by omega), hb_ci_s]
  by_cases hk : p / 1024 < tn σ 31 4
  · obtain ⟨a1, a2, a3, a4⟩ := h2 _ hk
    have hk16 : p / 1024 < 16 := by unfold tn at hk; omega
    obtain ⟨ea, ha⟩ := q_nn a1 (by omega)
    obtain ⟨ec, hc⟩ := q_nn a4 (by omega)
    have fa : (σ 32 (p / 1024)).toNatClampNeg = tn σ 32 (p / 1024) := rfl
    have fc : (σ 34 (p / 1024)).toNatClampNeg = tn σ 34 (p / 1024) := rfl
    rw [fa] at ea ha
    rw [fc] at ec hc
    simp only [hk, decide_true, hbb_t]
    rw [if_pos (by decide)]
    simp (disch := omega) only [q_inT, q_cl, hb_g_t, hb_g_nil]
    simp only [e9_37]
    rw [s33 σ hk16 a1]
    simp only [hb_ci_s, q_1024]
    simp (disch := omega) only [d1, q_div, q_rem, q_inT, q_cl, hb_g_t, hb_g_nil]
    rw [ec, s70 hbSH1 σ hc (by omega)]
    simp only [hb_ci_s]
    rw [ea]
    unfold gTk
    simp only [gP_at, hk, decide_true, Bool.true_and]
    generalize hA : tn σ 32 (p / 1024) = a at ha
    simp only [q_0, q_1, q_2]
    rcases (show a = 0 ∨ a = 1 ∨ a = 2 ∨ a = 3 ∨ a = 4 ∨ a = 5 by omega) with rfl | rfl | rfl | rfl | rfl | rfl <;> cases gHold (tn σ 34 (p / 1024)) (p % 1024) <;> rfl
  · unfold gTk
    simp only [gP_at, hk, decide_false, hbb_f, Bool.false_and]
    rfl
/-- slipping -/
theorem s10 {σ : hbM} (h : gI σ) {p k : Nat} (hp : p < 17408) (hk4 : k < 4) : hb_ev hbSH 10 [.ref 36, .int (nI p), .int (nI k)] σ = some (some (.int (hbo (gSl (gP σ) p k))), σ) := by
  obtain ⟨h1, h2, h3, h4, h5⟩ := h
  have hn := (q_nn h1 (by omega)).2
  have d1 : decide (¬ (1024 : Int32) = 0) = true := by decide
  have eq1 : nI p / (1024 : Int32) = nI (p / 1024) := q_div (d := 1024) (by omega) (by omega) (by omega)
  have eq2 : nI p - nI (p / 1024) * (1024 : Int32) = nI (p % 1024) := q_rem (d := 1024) (by omega) (by omega) (by omega)
  rw [v10, e10_0, d1, hb_g_t, hb_g_t, hb_g_nil, eq1, eq2, s32 σ h1 (by omega), hb_ci_s]
  by_cases hk : p / 1024 < tn σ 31 4
  · obtain ⟨a1, a2, a3, a4⟩ := h2 _ hk
    have hk16 : p / 1024 < 16 := by unfold tn at hk; omega
    obtain ⟨ea, ha⟩ := q_nn a1 (by omega)
    obtain ⟨et, ht⟩ := q_nn a2 (by omega)
    obtain ⟨ec, hc⟩ := q_nn a4 (by omega)
    have fa : (σ 32 (p / 1024)).toNatClampNeg = tn σ 32 (p / 1024) := rfl
    have ft : (σ 33 (p / 1024)).toNatClampNeg = tn σ 33 (p / 1024) := rfl
    have fc : (σ 34 (p / 1024)).toNatClampNeg = tn σ 34 (p / 1024) := rfl
    rw [fa] at ea ha
    rw [ft] at et ht
    rw [fc] at ec hc
    have hin : hb_in (nI (p / 1024)) 16 = true := q_inT (by omega) (by omega)
    have hcl : (nI (p / 1024)).toNatClampNeg = p / 1024 := q_cl (by omega)
    have hin2 : hb_in (nI (p % 1024)) 1024 = true := q_inT (by omega) (by omega)
    have hcl2 : (nI (p % 1024)).toNatClampNeg = p % 1024 := q_cl (by omega)
    rw [show decide (p / 1024 < tn σ 31 4) = true from decide_eq_true hk, hbb_t, if_pos (by decide), s33 σ hk16 a1, hb_ci_s, hin, hb_g_t, hb_g_nil, hcl, ea]
    obtain ⟨eT, bT⟩ := q_nn (h3 (p % 1024) (by omega)) (by omega)
    have fT : (σ 10 (p % 1024)).toNatClampNeg = tn σ 10 (p % 1024) := rfl
    rw [fT] at eT bT
    have eN : gSl (gP σ) p k = (if tn σ 32 (p / 1024) < 3 then
      (if k = 0 then some (1024 * (p / 1024 + 1) + p % 1024)
      else if k = 1 then (if tn σ 32 (p / 1024) < 2 then (match (gP σ).2.2.2.2.2.2 (tn σ 33 (p / 1024)) with
        | none => none
        | some v => some (1024 * (p / 1024 + 1) + gDone (tn σ 10) (tn σ 0 10) (p % 1024) v (decide (tn σ 32 (p / 1024) = 0)))) else none)
      else if k = 2 then (if tn σ 32 (p / 1024) = 2 ∧ gHold (tn σ 34 (p / 1024)) (p % 1024) = false then some (1024 * (p / 1024 + 1) + tn σ 10 (p % 1024)) else none)
      else (if p / 1024 = 0 then none else some (1024 * (p / 1024 - 1) + p % 1024)))
      else none) := by
      unfold gSl
      simp only [gP_at, hk, true_and]
    rw [eN]
    clear eN
    have hlike : ∀ op : Bool, tn σ 33 (p / 1024) < 4 → (if ¬ σ 37 (tn σ 33 (p / 1024)) = hbNO then hb_ci (hb_ev hbSH 71 [.ref 0, .int (nI (p % 1024)), .int (σ 37 (tn σ 33 (p / 1024))), .int (hbb op)] σ) (fun y σ' => some (some (.int (nI p + 1024 - nI (p % 1024) + y)), σ')) else some (some (.int hbNO), σ)) =
        some (some (.int (hbo (match (gP σ).2.2.2.2.2.2 (tn σ 33 (p / 1024)) with
        | none => none
        | some v => some (1024 * (p / 1024 + 1) + gDone (tn σ 10) (tn σ 0 10) (p % 1024) v op)))), σ) := by
      intro op hv
      show _ = some (some (Value.int (hbo (match (if σ 37 (tn σ 33 (p / 1024)) = hbNO then none else some (tn σ 37 (tn σ 33 (p / 1024)))) with
        | none => none
        | some v => some (1024 * (p / 1024 + 1) + gDone (tn σ 10) (tn σ 0 10) (p % 1024) v op)))), σ)
      by_cases hl : σ 37 (tn σ 33 (p / 1024)) = hbNO
      · simp only [hl, not_true_eq_false, if_false, if_true, hbo]
      · have h6 := (h5 _ hv).resolve_left hl
        obtain ⟨e6, b6⟩ := q_nn h6 (by omega)
        have f6 : (σ 37 (tn σ 33 (p / 1024))).toNatClampNeg = tn σ 37 (tn σ 33 (p / 1024)) := rfl
        rw [f6] at e6 b6
        rw [if_pos hl, if_neg hl, e6, s71 σ h3 h4 (by omega) b6 op, hb_ci_s, q_1024]
        have hg := gDone_lt h3 (tn σ 0 10) (st := p % 1024) (by omega) b6 op
        simp (disch := omega) only [hbo, q_add, q_sub]
        exact q_res _ (by omega)
    have hskip : nI p + (1024 : Int32) = nI (1024 * (p / 1024 + 1) + p % 1024) := by
      rw [q_1024, q_add]; exact congrArg nI (by omega)
    have haway : p / 1024 ≠ 0 → nI p - (1024 : Int32) = nI (1024 * (p / 1024 - 1) + p % 1024) := fun hz => by
      rw [q_1024, q_sub (by omega)]; exact congrArg nI (by omega)
    have hshort : nI p + (1024 : Int32) - nI (p % 1024) + nI (tn σ 10 (p % 1024)) = nI (1024 * (p / 1024 + 1) + tn σ 10 (p % 1024)) := by
      rw [q_1024, q_add, q_sub (by omega), q_add]; exact congrArg nI (by omega)
    have hz : (¬ nI (p / 1024) = 0) ↔ p / 1024 ≠ 0 := by
      rw [q_0, q_eq (by omega) (by omega)]
    have hK : k = 0 ∨ k = 1 ∨ k = 2 ∨ k = 3 := by omega
    have hA : tn σ 32 (p / 1024) = 0 ∨ tn σ 32 (p / 1024) = 1 ∨ tn σ 32 (p / 1024) = 2 ∨ tn σ 32 (p / 1024) = 3 ∨ tn σ 32 (p / 1024) = 4 ∨ tn σ 32 (p / 1024) = 5 := by omega
    rcases hA with hA | hA | hA | hA | hA | hA <;> rw [hA]
    · have hv := a3 (by omega)
      have hl1 := hlike true hv
      have hin4 : hb_in (nI (tn σ 33 (p / 1024))) 4 = true := q_inT (by omega) hv
      rw [if_pos (by decide), if_pos (by decide), if_neg (by decide), et, hin4, hb_g_t, hb_g_t, hb_g_t, hb_g_nil, if_neg (by decide), e10_148, e10_149, q_cl (by omega)]
      rcases hK with rfl | rfl | rfl | rfl
      · rw [if_pos (by decide), hskip]; rfl
      · rw [if_neg (by decide), if_pos (by decide)]; exact hl1
      · rfl
      · rw [if_neg (by decide), if_neg (by decide), if_neg (by decide)]
        by_cases h0 : p / 1024 = 0
        · rw [if_neg (fun q => hz.mp q h0)]; simp only [h0]; rfl
        · rw [if_pos (hz.mpr h0), haway h0, if_pos (by decide), if_neg (by decide), if_neg (by decide), if_neg (by decide), if_neg h0]; rfl
    · have hv := a3 (by omega)
      have hl1 := hlike false hv
      have hin4 : hb_in (nI (tn σ 33 (p / 1024))) 4 = true := q_inT (by omega) hv
      rw [if_pos (by decide), if_pos (by decide), if_neg (by decide), et, hin4, hb_g_t, hb_g_t, hb_g_t, hb_g_nil, if_pos (by decide), e10_148, e10_149, q_cl (by omega)]
      rcases hK with rfl | rfl | rfl | rfl
      · rw [if_pos (by decide), hskip]; rfl
      · rw [if_neg (by decide), if_pos (by decide)]; exact hl1
      · rfl
      · rw [if_neg (by decide), if_neg (by decide), if_neg (by decide)]
        by_cases h0 : p / 1024 = 0
        · rw [if_neg (fun q => hz.mp q h0)]; simp only [h0]; rfl
        · rw [if_pos (hz.mpr h0), haway h0, if_pos (by decide), if_neg (by decide), if_neg (by decide), if_neg (by decide), if_neg h0]; rfl
    · rw [if_neg (by decide), if_neg (by decide), if_pos (by decide), hb_g_t, hb_g_nil, if_pos (by decide), hb_g_t, hb_g_nil, ec, s70 hbSH1 σ hc (by omega), hb_ci_s]
      cases gHold (tn σ 34 (p / 1024)) (p % 1024) with
      | true =>
        rw [if_pos (by decide), e10_148, e10_149]
        rcases hK with rfl | rfl | rfl | rfl
        · rw [if_pos (by decide), hskip]; rfl
        · rfl
        · rfl
        · rw [if_neg (by decide), if_neg (by decide), if_neg (by decide)]
          by_cases h0 : p / 1024 = 0
          · rw [if_neg (fun q => hz.mp q h0)]; simp only [h0]; rfl
          · rw [if_pos (hz.mpr h0), haway h0, if_pos (by decide), if_neg (by decide), if_neg (by decide), if_neg (by decide), if_neg h0]; rfl
      | false =>
        rw [if_neg (by decide), e10_149]
        rcases hK with rfl | rfl | rfl | rfl
        · rw [if_pos (by decide), hskip]; rfl
        · rfl
        · rw [if_neg (by decide), if_neg (by decide), if_pos (by decide), if_neg (by decide), hin2, hb_g_t, hb_g_nil, hcl2, eT, hshort]; rfl
        · rw [if_neg (by decide), if_neg (by decide), if_neg (by decide)]
          by_cases h0 : p / 1024 = 0
          · rw [if_neg (fun q => hz.mp q h0)]; simp only [h0]; rfl
          · rw [if_pos (hz.mpr h0), haway h0, if_pos (by decide), if_neg (by decide), if_neg (by decide), if_neg (by decide), if_neg h0]; rfl
    · rcases hK with rfl | rfl | rfl | rfl <;> rfl
    · rcases hK with rfl | rfl | rfl | rfl <;> rfl
    · rcases hK with rfl | rfl | rfl | rfl <;> rfl
  · unfold gSl
    simp only [gP_at, hk, decide_false, hbb_f, false_and, if_false]
    rfl

theorem s11 (σ : hbM) {k : Nat} (hk : k < 4) : hb_ev hbSH 11 [.int (nI k)] σ = some (some (.int (hbb (decide (k = 1 ∨ k = 2)))), σ) := by
  rw [v11, e11_0]
  rcases (show k = 0 ∨ k = 1 ∨ k = 2 ∨ k = 3 by omega) with rfl | rfl | rfl | rfl <;> rfl
/-- the places that are come to are places -/
theorem gOn_lt {σ : hbM} (h : gI σ) {p q : Nat} (hp : p < 17408) (e : gOn (gP σ) p = some q) : q < 17408 := by
  obtain ⟨h1, h2, h3, h4, h5⟩ := h
  have hn := (q_nn h1 (by omega)).2
  unfold gOn at e
  simp only [gP_at] at e
  split at e
  · rename_i hk
    obtain ⟨a1, a2, a3, a4⟩ := h2 _ hk
    have hk16 : p / 1024 < 16 := by unfold tn at hk; omega
    have ht : tn σ 33 (p / 1024) < 16 := (q_nn a2 (by omega)).2
    have hT : tn σ 10 (p % 1024) < 1024 := (q_nn (h3 _ (by omega)) (by omega)).2
    split at e
    · rename_i ha
      cases e
      have := gDone_lt h3 (tn σ 0 10) (st := p % 1024) (by omega) (a3 (by omega)) true
      omega
    · split at e
      · rename_i ha
        cases e
        have := gDone_lt h3 (tn σ 0 10) (st := p % 1024) (by omega) (a3 (by omega)) false
        omega
      · split at e
        · split at e <;> cases e <;> omega
        · split at e
          · split at e <;> cases e <;> omega
          · split at e <;> cases e
            omega
  · cases e
theorem gSl_lt {σ : hbM} (h : gI σ) {p k q : Nat} (hp : p < 17408) (e : gSl (gP σ) p k = some q) : q < 17408 := by
  obtain ⟨h1, h2, h3, h4, h5⟩ := h
  have hn := (q_nn h1 (by omega)).2
  unfold gSl at e
  simp only [gP_at] at e
  split at e
  · rename_i hk
    obtain ⟨a1, a2, a3, a4⟩ := h2 _ hk.1
    have hk16 : p / 1024 < 16 := by have := hk.1; unfold tn at this; omega
    have hT : tn σ 10 (p % 1024) < 1024 := (q_nn (h3 _ (by omega)) (by omega)).2
    split at e
    · cases e; omega
    · split at e
      · split at e
        · rename_i ha
          split at e
          · cases e
          · rename_i v hv
            cases e
            have hv' : (if σ 37 (tn σ 33 (p / 1024)) = hbNO then none else some (tn σ 37 (tn σ 33 (p / 1024)))) = some v := hv
            split at hv'
            · cases hv'
            · rename_i hl
              cases hv'
              have b6 : tn σ 37 (tn σ 33 (p / 1024)) < 4 := (q_nn ((h5 _ (a3 ha)).resolve_left hl) (by omega)).2
              have := gDone_lt h3 (tn σ 0 10) (st := p % 1024) (by omega) b6 (decide (tn σ 32 (p / 1024) = 0))
              omega
        · cases e
      · split at e
        · split at e
          · cases e; omega
          · cases e
        · split at e
          · cases e
          · cases e; omega
  · cases e
