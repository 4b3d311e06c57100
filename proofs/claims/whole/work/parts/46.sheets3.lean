/-! SHEETS: sheet -/
/-- zeros from i on, j of them, in cell c from b on -/
def fz (c b : Nat) : Nat → hbM → Nat → hbM
  | 0, σ, _ => σ
  | j + 1, σ, i => fz c b j (hb_up σ c (b + i) 0) (i + 1)
theorem fz_c (c b : Nat) : ∀ (j : Nat) (σ : hbM) (i : Nat) {d : Nat}, d ≠ c → fz c b j σ i d = σ d := by
  intro j
  induction j with
  | zero => intro σ i d _; rfl
  | succ j ih =>
    intro σ i d h
    show fz c b j (hb_up σ c (b + i) 0) (i + 1) d = σ d
    rw [ih _ _ h, um_c _ _ _ h]
theorem fz_at (c b : Nat) : ∀ (j : Nat) (σ : hbM) (i k : Nat), fz c b j σ i c k = if b + i ≤ k ∧ k < b + i + j then 0 else σ c k := by
  intro j
  induction j with
  | zero => intro σ i k; rw [if_neg (by omega)]; rfl
  | succ j ih =>
    intro σ i k
    show fz c b j (hb_up σ c (b + i) 0) (i + 1) c k = _
    rw [ih, um_at]
    by_cases h1 : b + (i + 1) ≤ k ∧ k < b + (i + 1) + j
    · rw [if_pos h1, if_pos (by omega)]
    · rw [if_neg h1]
      by_cases h2 : k = b + i
      · rw [if_pos h2, if_pos (by omega)]
      · rw [if_neg h2, if_neg (by omega)]
theorem s197 {s : Nat} (hs : s < 8) : ∀ (j i : Nat) (σ : hbM), i + j = 40 → hb_run hbSH 197 (5, [.ref (23 + s), .int 0, .int (nI i), .int (nI 40)], [], σ) = some (none, fz (23 + s) 0 j σ i) := by
  intro j
  induction j with
  | zero =>
    intro i σ h
    obtain rfl : i = 40 := by omega
    rw [e197_5 s hs, if_pos (by decide)]; rfl
  | succ j ih =>
    intro i σ h
    rw [e197_5 s hs, if_neg (by rw [q_le (by omega) (by omega)]; omega), q_inT (by omega) (by omega), hb_g_t, hb_g_nil, nI_1, q_cl (by omega), ih (i + 1) _ (by omega)]
    show _ = some (none, fz (23 + s) 0 j (hb_up σ (23 + s) (0 + i) 0) (i + 1))
    rw [Nat.zero_add]
theorem s29 {s : Nat} (hs : s < 8) (σ : hbM) (x y : Int32) : hb_ev hbSH 29 [.ref (15 + s), .int x, .int y] σ = some (none, fz (23 + s) 0 40 (hb_up (hb_up (hb_up σ (15 + s) 1 1) (15 + s) 2 x) (15 + s) 3 y) 0) := by
  rw [v29, e29_0 s hs, show hb_01 1 = true from rfl, hb_g_t, hb_g_nil, v197, e197_0 s hs, q_0]
  have := s197 hs 40 0 (hb_up (hb_up (hb_up σ (15 + s) 1 1) (15 + s) 2 x) (15 + s) 3 y) (by omega)
  rw [q_0] at this
  rw [this, hb_cv_s]
theorem s115_loop {s : Nat} (hs : s < 8) (x2 x3 : Int32) : ∀ (j i : Nat) (σ : hbM), i + j = 40 → hb_run hbSH 115 (65, [.ref 54, .int (nI s), .int x2, .int x3, .int (nI i)], [], σ) = some (some (.int x3), fz 57 (40 * s) j σ i) := by
  intro j
  induction j with
  | zero =>
    intro i σ h
    obtain rfl : i = 40 := by omega
    rw [e115_65, if_pos (by decide)]; rfl
  | succ j ih =>
    intro i σ h
    have e4 : (40 : Int32) * nI s + nI i = nI (40 * s + i) := by rw [q_40, q_mul, q_add]
    rw [e115_65, if_neg (by rw [q_40, q_le (by omega) (by omega)]; omega), e4, q_inT (by omega) (by omega), hb_g_t, hb_g_nil, nI_1, q_cl (by omega), ih (i + 1) _ (by omega)]
    rfl
theorem o_sheet {n : Nat} {σ : hbM} (hJ : J n σ) (x y v : Int32) : Ok2 n 78 115 [.int x, .int y, .int v] σ := by
  obtain ⟨_, _, _, _, h5, h6⟩ := hJ.1
  have ek : ∀ (u : Int32) (s : hbM), hb_ev hbSH 112 [.long u.toInt64, .long 0, .long 2] s = some (some (.int (hbb (hb_in u 3))), s) := fun u s => by rw [s112, q_long u 3 (by decide)]
  cases hx : hb_in x 8 with
  | false =>
    refine Ok2.rd hJ (r := -1000001) ?_ ?_
    · rw [v78, e78_0g, s108n, hb_ci_s, hx]; rfl
    · rw [v115, e115_0, s114, hb_ci_s, hx]; rfl
  | true =>
    obtain ⟨s, hs, rfl⟩ := q_in_of hx
    cases hy : hb_in y 3 with
    | false =>
      refine Ok2.rd hJ (r := -1000001) ?_ ?_
      · rw [v78, e78_0s s hs, s108n, hb_ci_s, hx, hbb_t, if_neg (by decide), s110n _ _ 3 q_3 (by omega), hb_ci_s, hy]; rfl
      · rw [v115, e115_0, s114, hb_ci_s, hx, hbb_t, if_neg (by decide), ek, hb_ci_s, hy]; rfl
    | true =>
      obtain ⟨l, hl, rfl⟩ := q_in_of hy
      by_cases g1 : v ≤ (40 : Int32)
      · by_cases g2 : (0 : Int32) ≤ v
        · obtain ⟨z, hz, rfl⟩ := nI_of (x := v) (by rw [Int32.lt_iff_toInt_lt]; rw [Int32.le_iff_toInt_le] at g2; omega)
          have hz40 : z ≤ 40 := by rw [q_40, q_le (by omega) (by omega)] at g1; exact g1
          refine ⟨nI z, hb_up (fz (23 + s) 0 40 (hb_up (hb_up (hb_up σ (15 + s) 1 1) (15 + s) 2 (nI l)) (15 + s) 3 (nI z)) 0) 13 9 0, fz 57 (40 * s) 40 (hb_up (hb_up (hb_up (hb_up (hb_up (fz (23 + s) 0 40 (hb_up (hb_up (hb_up σ (15 + s) 1 1) (15 + s) 2 (nI l)) (15 + s) 3 (nI z)) 0) 13 9 0) 54 0 0) 54 1 0) 55 s (nI l)) 56 s (nI z)) 0, ?_, ?_, ?_⟩
          · rw [v78, e78_0s s hs, s108n, hb_ci_s, hx, hbb_t, if_neg (by decide), s110n _ _ 3 q_3 (by omega), hb_ci_s, hy, hbb_t, if_neg (by decide), if_pos g1, if_pos g2, hb_g_t, hb_g_nil, s29 hs, hb_cv_s, s106, hb_ci_s]
          · have e := s115_loop hs (nI l) (nI z) 40 0 (hb_up (hb_up (hb_up (hb_up (hb_up (fz (23 + s) 0 40 (hb_up (hb_up (hb_up σ (15 + s) 1 1) (15 + s) 2 (nI l)) (15 + s) 3 (nI z)) 0) 13 9 0) 54 0 0) 54 1 0) 55 s (nI l)) 56 s (nI z)) (by omega)
            rw [show nI 0 = (0 : Int32) from rfl] at e
            rw [v115, e115_0, s114, hb_ci_s, hx, hbb_t, if_neg (by decide), ek, hb_ci_s, hy, hbb_t, if_neg (by decide), if_pos g1, if_pos g2, hb_g_t, hb_g_t, hb_g_nil, q_cl (by omega), e]
          · generalize hτ : hb_up (hb_up (hb_up σ (15 + s) 1 1) (15 + s) 2 (nI l)) (15 + s) 3 (nI z) = τ
            have t0 : ∀ c, c ≠ 15 + s → τ c = σ c := fun c q => by rw [← hτ, um_c _ _ _ q, um_c _ _ _ q, um_c _ _ _ q]
            have t1 : τ (15 + s) 1 = 1 := by rw [← hτ, um_i _ _ _ (by omega), um_i _ _ _ (by omega), um_s]
            have t2 : τ (15 + s) 2 = nI l := by rw [← hτ, um_i _ _ _ (by omega), um_s]
            have t3 : τ (15 + s) 3 = nI z := by rw [← hτ, um_s]
            generalize hρ : fz 57 (40 * s) 40 (hb_up (hb_up (hb_up (hb_up (hb_up (fz (23 + s) 0 40 τ 0) 13 9 0) 54 0 0) 54 1 0) 55 s (nI l)) 56 s (nI z)) 0 = ρ
            have e0 : ∀ c, c ≠ 13 → c ≠ 54 → c ≠ 55 → c ≠ 56 → c ≠ 57 → ρ c = fz (23 + s) 0 40 τ 0 c := fun c q1 q2 q3 q4 q5 => by
              rw [← hρ, fz_c _ _ _ _ _ q5, um_c _ _ _ q4, um_c _ _ _ q3, um_c _ _ _ q2, um_c _ _ _ q2, um_c _ _ _ q1]
            have e : ∀ c, c ≠ 23 + s → c ≠ 15 + s → c ≠ 13 → c ≠ 54 → c ≠ 55 → c ≠ 56 → c ≠ 57 → ρ c = σ c := fun c q0 q6 q1 q2 q3 q4 q5 => by
              rw [e0 c q1 q2 q3 q4 q5, fz_c _ _ _ _ _ q0, t0 c q6]
            have e55 : ∀ i, ρ 55 i = if i = s then nI l else σ 55 i := fun i => by
              rw [← hρ, fz_c _ _ _ _ _ (by omega), um_c _ _ _ (by omega), um_at, um_c _ _ _ (by omega), um_c _ _ _ (by omega), um_c _ _ _ (by omega), fz_c _ _ _ _ _ (by omega), t0 55 (by omega)]
            have e56 : ∀ i, ρ 56 i = if i = s then nI z else σ 56 i := fun i => by
              rw [← hρ, fz_c _ _ _ _ _ (by omega), um_at, um_c _ _ _ (by omega), um_c _ _ _ (by omega), um_c _ _ _ (by omega), um_c _ _ _ (by omega), fz_c _ _ _ _ _ (by omega), t0 56 (by omega)]
            have e57 : ∀ i, ρ 57 i = if 40 * s ≤ i ∧ i < 40 * s + 40 then 0 else σ 57 i := fun i => by
              rw [← hρ, fz_at, um_c _ _ _ (by omega), um_c _ _ _ (by omega), um_c _ _ _ (by omega), um_c _ _ _ (by omega), um_c _ _ _ (by omega), fz_c _ _ _ _ _ (by omega), t0 57 (by omega)]; rfl
            refine J_sh hJ (fun c q1 q2 q3 q4 q5 => e c (by omega) (by omega) (by omega) q2 q3 q4 q5) (fun i q1 q2 => ?_) ?_ ?_ ?_ (jS_up h5 (s := s) (fun u hu q => ?_) ?_)
            · rw [← hρ, fz_c _ _ _ _ _ (by omega), um_c _ _ _ (by omega), um_c _ _ _ (by omega), um_i _ _ _ q2, um_i _ _ _ q1, um_c _ _ _ (by omega), fz_c _ _ _ _ _ (by omega), t0 54 (by omega)]
            · rw [← hρ, fz_c _ _ _ _ _ (by omega), um_c _ _ _ (by omega), um_c _ _ _ (by omega), um_c _ _ _ (by omega), um_c _ _ _ (by omega), um_s]
            · rw [← hρ, fz_c _ _ _ _ _ (by omega), um_c _ _ _ (by omega), um_c _ _ _ (by omega), um_s]
            · rw [← hρ, fz_c _ _ _ _ _ (by omega), um_c _ _ _ (by omega), um_c _ _ _ (by omega), um_c _ _ _ (by omega), um_c _ _ _ (by omega), um_i _ _ _ (by omega), fz_c _ _ _ _ _ (by omega), t0 13 (by omega)]
            · refine ⟨e _ (by omega) (by omega) (by omega) (by omega) (by omega) (by omega) (by omega), by rw [e55, if_neg q], by rw [e56, if_neg q], e _ (by omega) (by omega) (by omega) (by omega) (by omega) (by omega) (by omega), fun i hi => ?_⟩
              rw [e57, if_neg (by omega)]
            · rw [e0 (15 + s) (by omega) (by omega) (by omega) (by omega) (by omega), fz_c _ _ _ _ _ (show 15 + s ≠ 23 + s by omega), t1, t2, t3, e55, e56, if_pos rfl, if_pos rfl]
              refine ⟨Or.inr ⟨rfl, l, hl, rfl, rfl⟩, ⟨z, hz40, rfl, rfl⟩, fun i hi => ?_⟩
              rw [e57, if_pos (by omega), e0 (23 + s) (by omega) (by omega) (by omega) (by omega) (by omega), fz_at, if_pos (by omega)]
        · refine ⟨(-1000010 : Int32) - 4, hb_up σ 13 9 4, _, ?_, ?_, found_J hJ 4⟩
          · rw [v78, e78_0s s hs, s108n, hb_ci_s, hx, hbb_t, if_neg (by decide), s110n _ _ 3 q_3 (by omega), hb_ci_s, hy, hbb_t, if_neg (by decide), if_pos g1, if_neg g2, s105, hb_ci_s]
          · rw [v115, e115_0, s114, hb_ci_s, hx, hbb_t, if_neg (by decide), ek, hb_ci_s, hy, hbb_t, if_neg (by decide), if_pos g1, if_neg g2, s113, hb_ci_s]
      · refine Ok2.rd hJ (r := -1000001) ?_ ?_
        · rw [v78, e78_0s s hs, s108n, hb_ci_s, hx, hbb_t, if_neg (by decide), s110n _ _ 3 q_3 (by omega), hb_ci_s, hy, hbb_t, if_neg (by decide), if_neg g1]
        · rw [v115, e115_0, s114, hb_ci_s, hx, hbb_t, if_neg (by decide), ek, hb_ci_s, hy, hbb_t, if_neg (by decide), if_neg g1]
