/-! the reference: conds -/
theorem cwD_1 : ∀ d, d < 15 → decide ((0 : Int64) ≤ Int32.toInt64 (hbo (rW d)) ∧ Int32.toInt64 (hbo (rW d)) ≤ 3) = decide (7 ≤ d ∧ d ≤ 10) := by decide +kernel
theorem cwD (d : Nat) : decide ((0 : Int64) ≤ Int32.toInt64 (hbo (rW d)) ∧ Int32.toInt64 (hbo (rW d)) ≤ 3) = decide (7 ≤ d ∧ d ≤ 10) := by
  by_cases h : d < 15
  · exact cwD_1 d h
  · have h1 : rW d = none := by unfold rW; exact if_neg (by omega)
    have h2 : decide (7 ≤ d ∧ d ≤ 10) = false := decide_eq_false (by omega)
    rw [h1, h2]
    decide +kernel
section
variable {bt : Nat → Nat} {n : Nat}
/-- what readCond leaves -/
def rCo (bt : Nat → Nat) (n at' : Nat) (o : (Nat × Nat) ⊕ (Nat × Nat)) (σ σ' : hbM) : Prop := match o with
  | .inl (f, k) => rG σ σ' ∧ σ' 54 30 = nI f ∧ 0 < f ∧ f < 4 ∧ σ' 54 31 = nI (tkS bt n k)
  | .inr (k, v) => ∃ a b d σ1, v = 64 * a + 8 * b + d ∧ a < 4 ∧ b < 8 ∧ d < 8 ∧ rG σ σ1 ∧ σ1 54 30 = 0 ∧ rT bt n σ1 k ∧ σ' = hb_up (hb_up (hb_up σ1 62 at' (nI a)) 63 at' (nI b)) 64 at' (nI d)
theorem s129x {σ : hbM} {f : Nat} (h30 : σ 54 30 = nI f) (hf : 0 < f) (hf4 : f < 4) (x : Int32) : hb_ev hbSH 129 [.ref 54, .int x] σ = some (none, σ) := by
  rw [v129, e129_0, h30, if_neg (by rw [q_0, q_le (by omega) (by omega)]; omega)]
theorem pN_lb {c : Nat → Nat} {b k k2 v : Nat} (h : pN c b k = .inr (k2, v)) : v < b := by
  unfold pN at h
  split at h
  · cases h
  · split at h
    · cases h
    · cases h; omega
theorem s129 {k at' : Nat} {σ : hbM} (hat : at' < 40) (hT : rTp bt n σ) (hR : rT bt n σ k) (h30 : σ 54 30 = 0) : ∃ σ', hb_ev hbSH 129 [.ref 54, .int (nI at')] σ = some (none, σ') ∧ rCo bt n at' (pC (tkD bt n) k) σ σ' := by
  rw [v129, e129_0, h30, if_pos (by decide), s128 hT hR, hb_ci_s, s112, cwD, hb_ci_s]
  unfold pC
  by_cases hw : 7 ≤ tkD bt n k ∧ tkD bt n k ≤ 10
  · rw [decide_eq_true hw, if_neg (show ¬ (tkD bt n k < 7 ∨ 10 < tkD bt n k) by omega)]
    have hrw : rW (tkD bt n k) = some (tkD bt n k - 7) := by unfold rW; exact if_pos (by omega)
    obtain ⟨σ1, a1, a2, a3, a4⟩ := s125t hT hR h30
    have hT1 := hT.g a2.g
    rw [show hbb true = (1 : Int32) from rfl, a1, hb_cv_s, hrw, show hbo (some (tkD bt n k - 7)) = nI (tkD bt n k - 7) from rfl]
    have e2 : ((2 : Int32) ≤ nI (tkD bt n k - 7)) = ¬ tkD bt n k < 9 := by rw [show (2 : Int32) = nI 2 from rfl, q_le (by omega) (by omega)]; exact propext (by omega)
    by_cases h9 : tkD bt n k < 9
    · simp only [e2]
      rw [if_neg (fun z => z h9), e129_37]
      simp only [e2]
      rw [if_pos h9]
      obtain ⟨σ2, y, b1, b2, b3⟩ := s127 (b := 4) (by omega) (by omega) hT1 a3 a4
      rw [show nI (4 - 1) = (3 : Int32) from rfl] at b1
      rw [b1, hb_ci_s, if_neg (fun z => z h9)]
      generalize hp : pN (tkD bt n) 4 (k + 1) = o at b3 ⊢
      match o, hp, b3 with
      | .inl (f, k2), _, b3 =>
        obtain ⟨c1, c2, c3, c4⟩ := b3
        rw [if_pos (by rw [c1, q_0, q_eq (by omega) (by omega)]; omega)]
        exact ⟨σ2, rfl, a2.g.tr b2, c1, c2, c3, c4⟩
      | .inr (k2, v), hp, b3 =>
        obtain ⟨c1, c2, c3, c4⟩ := b3
        have hv := pN_lb hp
        rw [if_neg (fun z => z c3), q_inT (by omega) (by omega), hb_g_t, hb_g_t, hb_g_t, hb_g_nil, q_cl (by omega), c1]
        refine ⟨_, rfl, ?_⟩
        simp only [if_pos h9]
        exact ⟨tkD bt n k - 7, v, 0, σ2, by omega, by omega, by omega, by omega, a2.g.tr b2, c3, c4, rfl⟩
    · simp only [e2]
      rw [if_pos h9, e129_37]
      simp only [e2]
      rw [if_neg h9]
      obtain ⟨σ2, y, b1, b2, b3⟩ := s127 (b := 2) (by omega) (by omega) hT1 a3 a4
      rw [show nI (2 - 1) = (1 : Int32) from rfl] at b1
      rw [b1, hb_ci_s, if_pos h9]
      have hT2 := hT1.g b2
      generalize hp : pN (tkD bt n) 2 (k + 1) = o at b3 ⊢
      match o, hp, b3 with
      | .inl (f, k2), _, b3 =>
        obtain ⟨c1, c2, c3, c4⟩ := b3
        rw [s127x c1 c2 c3, hb_ci_s, if_pos (by rw [c1, q_0, q_eq (by omega) (by omega)]; omega)]
        exact ⟨σ2, rfl, a2.g.tr b2, c1, c2, c3, c4⟩
      | .inr (k2, v), hp, b3 =>
        obtain ⟨c1, c2, c3, c4⟩ := b3
        have hv := pN_lb hp
        obtain ⟨σ3, y3, d1, d2, d3⟩ := s127 (b := 8) (by omega) (by omega) hT2 c4 c3
        rw [show nI (8 - 1) = (7 : Int32) from rfl] at d1
        rw [d1, hb_ci_s]
        simp only [if_neg h9]
        generalize hp3 : pN (tkD bt n) 8 k2 = o3 at d3 ⊢
        match o3, hp3, d3 with
        | .inl (f, k3), _, d3 =>
          obtain ⟨g1, g2, g3, g4⟩ := d3
          rw [if_pos (by rw [g1, q_0, q_eq (by omega) (by omega)]; omega)]
          exact ⟨σ3, rfl, (a2.g.tr b2).tr d2, g1, g2, g3, g4⟩
        | .inr (k3, v3), hp3, d3 =>
          obtain ⟨g1, g2, g3, g4⟩ := d3
          have hv3 := pN_lb hp3
          rw [if_neg (fun z => z g3), q_inT (by omega) (by omega), hb_g_t, hb_g_t, hb_g_t, hb_g_nil, q_cl (by omega), c1, g1]
          exact ⟨_, rfl, tkD bt n k - 7, v, v3, σ3, by omega, by omega, by omega, by omega, (a2.g.tr b2).tr d2, g3, g4, rfl⟩
  · rw [decide_eq_false hw, if_pos (show tkD bt n k < 7 ∨ 10 < tkD bt n k by omega)]
    obtain ⟨σ1, a1, a2, a3, a4⟩ := s125f hR h30
    rw [show hbb false = (0 : Int32) from rfl, a1, hb_cv_s]
    have hx : ∀ y9 s0 : Int32, hb_run hbSH 129 (37, [.ref 54, .int (nI at'), .int y9, .null, .null], [.int s0, .ref 54], σ1) = some (none, σ1) := by
      intro y9 s0
      have hne : ¬ σ1 54 30 = 0 := by rw [a3, q_0, q_eq (by omega) (by omega)]; omega
      rw [e129_37, s127x a3 (by omega) (by omega), hb_ci_s]
      by_cases z : (2 : Int32) ≤ y9
      · rw [if_pos z, s127x a3 (by omega) (by omega), hb_ci_s, if_pos hne]
      · rw [if_neg z, if_pos hne]
    rw [hx, hx]
    exact ⟨σ1, by split <;> rfl, a2, a3, by omega, by omega, a4⟩
end
