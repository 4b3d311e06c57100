/-! SHEETS: drop, sheet, set -/
theorem s114 (σ : hbM) (x : Int32) : hb_ev hbSH 114 [.int x] σ = some (some (.int (hbb (hb_in x 8))), σ) := by
  rw [v114, e114_0, s112, hb_ci_s, q_long x 8 (by decide), hbb_01]; rfl
theorem s108n (σ : hbM) (x : Int32) : hb_ev hbSH 108 [.int x] σ = some (some (.int (hbb (hb_in x 8))), σ) := by
  rw [s108, show (8 : Int32) = nI 8 from rfl, q_dec _ _ (by omega)]
theorem s105 (σ : hbM) (v : Int32) : hb_ev hbSH 105 [.ref 13, .int v] σ = some (some (.int ((-1000010 : Int32) - v)), hb_up σ 13 9 v) := by rw [v105, e105_0]
theorem s106 (σ : hbM) (v : Int32) : hb_ev hbSH 106 [.ref 13, .int v] σ = some (some (.int v), hb_up σ 13 9 0) := by rw [v106, e106_0]
theorem s113 (σ : hbM) (v : Int32) : hb_ev hbSH 113 [.ref 54, .int v] σ = some (some (.int ((-1000010 : Int32) - v)), hb_up σ 54 1 v) := by rw [v113, e113_0]
/-- a finding, on both sides -/
theorem found_J {n : Nat} {σ : hbM} (hJ : J n σ) (v : Int32) : J (n + 1) (hb_up (hb_up (hb_up (hb_up σ 13 9 v) 54 0 0) 54 1 0) 54 1 v) := by
  have hf := hJ.1.2.2.2.2.2
  refine J_f hJ (fun c q1 q2 => by rw [um_c _ _ _ q2, um_c _ _ _ q2, um_c _ _ _ q2, um_c _ _ _ q1]) (fun i q1 q2 q3 => by rw [um_i _ _ _ q2, um_i _ _ _ q2, um_i _ _ _ q1, um_c _ _ _ (by omega)]) ⟨?_, ?_⟩
  · rw [um_c _ _ _ (by omega), um_c _ _ _ (by omega), um_c _ _ _ (by omega), um_s, um_s]
  · rw [um_c _ _ _ (by omega), um_c _ _ _ (by omega), um_c _ _ _ (by omega), um_i _ _ _ (by omega), um_i _ _ _ (by omega), um_i _ _ _ (by omega), um_i _ _ _ (by omega), um_c _ _ _ (by omega)]; exact hf.2
theorem found_J2 {n : Nat} {σ : hbM} (hJ : J n σ) (v : Int32) : J (n + 1) (hb_up (hb_up (hb_up σ 13 9 v) 54 0 0) 54 1 v) := by
  have hf := hJ.1.2.2.2.2.2
  refine J_f hJ (fun c q1 q2 => by rw [um_c _ _ _ q2, um_c _ _ _ q2, um_c _ _ _ q1]) (fun i q1 q2 q3 => by rw [um_i _ _ _ q2, um_i _ _ _ q1, um_c _ _ _ (by omega)]) ⟨?_, ?_⟩
  · rw [um_c _ _ _ (by omega), um_c _ _ _ (by omega), um_s, um_s]
  · rw [um_c _ _ _ (by omega), um_c _ _ _ (by omega), um_i _ _ _ (by omega), um_i _ _ _ (by omega), um_i _ _ _ (by omega), um_c _ _ _ (by omega)]; exact hf.2
/-- only sheets and the finding have changed -/
theorem J_sh {n : Nat} {σ σ' : hbM} (hJ : J n σ) (a : ∀ c, (c < 13 ∨ 31 ≤ c) → c ≠ 54 → c ≠ 55 → c ≠ 56 → c ≠ 57 → σ' c = σ c) (a54 : ∀ i, i ≠ 0 → i ≠ 1 → σ' 54 i = σ 54 i) (h9 : σ' 13 9 = 0) (h1 : σ' 54 1 = 0) (h10 : σ' 13 10 = σ 13 10) (hs : jS σ') : J (n + 1) σ' := by
  obtain ⟨_, h2, h3, h4, h5, h6⟩ := hJ.1
  refine ⟨J0_x hJ.1 (fun c hc => a c (by omega) (by omega) (by omega) (by omega) (by omega)) (by rw [a 31 (by omega) (by omega) (by omega) (by omega) (by omega)]) (fun i hi => a54 i (by omega) (by omega)) ?_ ?_ hs ⟨by rw [h9, h1], by rw [h10, a54 24 (by omega) (by omega)]; exact h6.2⟩, jR_gen (fun c hc => a c (by omega) (by omega) (by omega) (by omega) (by omega)) hJ.2⟩
  · unfold jT; rw [a 39 (by omega) (by omega) (by omega) (by omega) (by omega), a54 23 (by omega) (by omega), a 40 (by omega) (by omega) (by omega) (by omega) (by omega), a 67 (by omega) (by omega) (by omega) (by omega) (by omega)]; exact h3
  · unfold jA; rw [a 31 (by omega) (by omega) (by omega) (by omega) (by omega), a54 48 (by omega) (by omega), a 35 (by omega) (by omega) (by omega) (by omega) (by omega), a 79 (by omega) (by omega) (by omega) (by omega) (by omega)]; exact h4
/-- a sheet is there, or not -/
theorem sh_t {σ : hbM} (h : jS σ) {s : Nat} (hs : s < 8) : (σ (15 + s) 1 = 0 ∧ σ 55 s = -1) ∨ (σ (15 + s) 1 = 1 ∧ ∃ l, l < 3 ∧ σ (15 + s) 2 = nI l ∧ σ 55 s = nI l) := (h s hs).1
theorem o_drop {n : Nat} {σ : hbM} (hJ : J n σ) (x : Int32) : Ok2 n 81 118 [.int x] σ := by
  obtain ⟨_, _, _, _, h5, h6⟩ := hJ.1
  cases hx : hb_in x 8 with
  | false =>
    refine Ok2.rd hJ (r := -1000001) ?_ ?_
    · rw [v81, e81_0g, s108n, hb_ci_s, hx]; rfl
    · rw [v118, e118_0, s114, hb_ci_s, hx]; rfl
  | true =>
    obtain ⟨s, hs, rfl⟩ := q_in_of hx
    obtain ⟨_, ⟨z, z1, z2, z3⟩, _⟩ := h5 s hs
    rcases sh_t h5 hs with ⟨t1, t2⟩ | ⟨t1, l, l1, l2, l3⟩
    · refine ⟨(-1000010 : Int32) - 1, hb_up σ 13 9 1, _, ?_, ?_, found_J hJ 1⟩
      · rw [v81, e81_0s s hs, s108n, hb_ci_s, hx, hbb_t, if_pos (by decide), hb_g_t, hb_g_nil, t1, if_neg (fun q => q rfl), s105, hb_ci_s]
      · rw [v118, e118_0, s114, hb_ci_s, hx, hbb_t, if_pos (by decide), hb_g_t, hb_g_nil, q_cl (by omega), um_c _ _ _ (show (55 : Nat) ≠ 54 by omega), um_c _ _ _ (show (55 : Nat) ≠ 13 by omega), t2, if_neg (by decide), s113, hb_ci_s]
    · have hz : (0 : Int32) ≤ nI l := by rw [q_0, q_le (by omega) (by omega)]; omega
      have e : ∀ c, c ≠ 15 + s → c ≠ 13 → c ≠ 54 → c ≠ 55 → hb_up (hb_up (hb_up (hb_up (hb_up σ (15 + s) 1 0) 13 9 0) 54 0 0) 54 1 0) 55 s (-1) c = σ c := fun c q1 q2 q3 q4 => by
        rw [um_c _ _ _ q4, um_c _ _ _ q3, um_c _ _ _ q3, um_c _ _ _ q2, um_c _ _ _ q1]
      refine ⟨nI z, hb_up (hb_up σ (15 + s) 1 0) 13 9 0, hb_up (hb_up (hb_up (hb_up (hb_up σ (15 + s) 1 0) 13 9 0) 54 0 0) 54 1 0) 55 s (-1), ?_, ?_, ?_⟩
      · rw [v81, e81_0s s hs, s108n, hb_ci_s, hx, hbb_t, if_pos (by decide), hb_g_t, hb_g_nil, t1, if_pos (by decide), show hb_01 0 = true from rfl, hb_g_t, hb_g_nil, s106, hb_ci_s, z2]
      · rw [v118, e118_0, s114, hb_ci_s, hx, hbb_t, if_pos (by decide), hb_g_t, hb_g_nil, hb_g_t, hb_g_t, hb_g_nil, q_cl (by omega)]
        rw [um_c _ _ _ (show (55 : Nat) ≠ 54 by omega), um_c _ _ _ (show (55 : Nat) ≠ 13 by omega), um_c _ _ _ (show (55 : Nat) ≠ 15 + s by omega), l3, if_pos hz, um_c _ _ _ (show (56 : Nat) ≠ 54 by omega), um_c _ _ _ (show (56 : Nat) ≠ 13 by omega), um_c _ _ _ (show (56 : Nat) ≠ 15 + s by omega), z3]
      · refine J_sh hJ (fun c q1 q2 q3 q4 q5 => e c (by omega) (by omega) q2 q3) (fun i q1 q2 => ?_) ?_ ?_ ?_ ?_
        · rw [um_c _ _ _ (by omega), um_i _ _ _ q2, um_i _ _ _ q1, um_c _ _ _ (by omega), um_c _ _ _ (by omega)]
        · rw [um_c _ _ _ (by omega), um_c _ _ _ (by omega), um_c _ _ _ (by omega), um_s]
        · rw [um_c _ _ _ (by omega), um_s]
        · rw [um_c _ _ _ (by omega), um_c _ _ _ (by omega), um_c _ _ _ (by omega), um_i _ _ _ (by omega), um_c _ _ _ (by omega)]
        · intro u hu
          obtain ⟨a1, a2, a3⟩ := h5 u hu
          rw [e (23 + u) (by omega) (by omega) (by omega) (by omega), e 57 (by omega) (by omega) (by omega) (by omega), e 56 (by omega) (by omega) (by omega) (by omega), um_at]
          rw [um_c _ _ _ (show 15 + u ≠ 55 by omega), um_c _ _ _ (show 15 + u ≠ 54 by omega), um_c _ _ _ (show 15 + u ≠ 54 by omega), um_c _ _ _ (show 15 + u ≠ 13 by omega), um_c _ _ _ (show (55 : Nat) ≠ 54 by omega), um_c _ _ _ (show (55 : Nat) ≠ 54 by omega), um_c _ _ _ (show (55 : Nat) ≠ 13 by omega), um_c _ _ _ (show (55 : Nat) ≠ 15 + s by omega)]
          by_cases q : u = s
          · subst q
            rw [if_pos rfl, um_s, um_i _ _ _ (show (2 : Nat) ≠ 1 by omega), um_i _ _ _ (show (3 : Nat) ≠ 1 by omega)]
            exact ⟨Or.inl ⟨rfl, rfl⟩, a2, a3⟩
          · rw [if_neg q, um_c _ _ _ (show 15 + u ≠ 15 + s by omega)]
            exact ⟨a1, a2, a3⟩
