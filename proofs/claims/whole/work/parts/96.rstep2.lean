/-! the reference: readStep, whole -/
theorem aOf_1 : ∀ d, d < 15 → (aOf d = none → rW d = none ∨ rW d = some 2 ∨ rW d = some 3) ∧ ∀ a, a < 6 → aOf d = some a → rW d = some (cact a) := by decide +kernel
theorem aOf_no {d : Nat} (h : aOf d = none) : rW d = none ∨ rW d = some 2 ∨ rW d = some 3 := by
  by_cases hd : d < 15
  · exact (aOf_1 d hd).1 h
  · exact .inl (by unfold rW; exact if_neg (by omega))
theorem aOf_so {d a : Nat} (h : aOf d = some a) : rW d = some (cact a) := by
  by_cases hd : d < 15
  · exact (aOf_1 d hd).2 a (aOf_lt h).1 h
  · exfalso
    have : aOf d = none := by unfold aOf; rw [if_neg (by omega), if_neg (by omega), if_neg (by omega), if_neg (by omega), if_neg (by omega), if_neg (by omega)]
    rw [this] at h; cases h
section
variable {bt : Nat → Nat} {n : Nat}
def rSo (bt : Nat → Nat) (n s : Nat) (o : (Nat × Nat) ⊕ (Nat × Nat × Nat × Nat)) (σ' : hbM) : Prop := match o with
  | .inl (f, k2) => rFa bt n f k2 σ'
  | .inr (k3, a, t, v) => σ' 54 30 = 0 ∧ rT bt n σ' k3 ∧ σ' 54 15 = nI (s + 1) ∧ a < 6 ∧ σ' 65 s = nI (cact a) ∧ (a ≠ 2 → a ≠ 5 → σ' 66 s = nI t) ∧ (a = 2 ∨ a = 3 → mC σ' (24 + s) ∧ cM σ' (24 + s) = v)
theorem cd_at {σ : hbM} {p a b d : Nat} (ha : a < 4) (hb : b < 8) (hd : d < 8) : mC (hb_up (hb_up (hb_up σ 62 p (nI a)) 63 p (nI b)) 64 p (nI d)) p ∧ cM (hb_up (hb_up (hb_up σ 62 p (nI a)) 63 p (nI b)) 64 p (nI d)) p = 64 * a + 8 * b + d := by
  unfold mC cM tn
  rw [um_s62, um_s63, um_s64, q_cl (by omega), q_cl (by omega), q_cl (by omega)]
  exact ⟨⟨q_inT (by omega) (by omega), q_inT (by omega) (by omega), q_inT (by omega) (by omega)⟩, rfl⟩
theorem cd_eq {σ σ' : hbM} {p : Nat} {v : Nat} (h : mC σ p ∧ cM σ p = v) (e2 : σ' 62 = σ 62) (e3 : σ' 63 = σ 63) (e4 : σ' 64 = σ 64) : mC σ' p ∧ cM σ' p = v := by
  unfold mC cM tn at h ⊢
  rw [e2, e3, e4]; exact h
/-- the cond of a step -/
theorem s131_50 {s k : Nat} {σ : hbM} (hs : s < 16) (hT : rTp bt n σ) (hR : rT bt n σ k) (h30 : σ 54 30 = 0) (h15 : σ 54 15 = nI s) : ∃ σ', hb_ev hbSH 129 [.ref 54, .int ((24 : Int32) + σ 54 15)] σ = some (none, σ') ∧ rSq s σ σ' ∧ σ' 54 15 = nI s ∧ σ' 65 = σ 65 ∧ (match pC (tkD bt n) k with
    | .inl (f, k2) => rFa bt n f k2 σ'
    | .inr (k2, v) => σ' 54 30 = 0 ∧ rT bt n σ' k2 ∧ mC σ' (24 + s) ∧ cM σ' (24 + s) = v) := by
  obtain ⟨σ1, a1, a2⟩ := s129 (at' := 24 + s) (by omega) hT hR h30
  rw [h15, show (24 : Int32) = nI 24 from rfl, q_add, a1]
  refine ⟨σ1, rfl, ?_⟩
  generalize pC (tkD bt n) k = o at a2 ⊢
  match o, a2 with
  | .inl (f, k2), a2 =>
    obtain ⟨b1, b2, b3, b4, b5⟩ := a2
    exact ⟨b1.s, by rw [b1.2 15 (by omega)]; exact h15, b1.1 65 (by omega), b2, b3, b4, b5⟩
  | .inr (k2, v), a2 =>
    obtain ⟨a, b, d, σ2, hv, ha, hb, hd, g1, g2, g3, g4⟩ := a2
    have h54 : σ1 54 = σ2 54 := by rw [g4, um_c _ _ _ (by omega), um_c _ _ _ (by omega), um_c _ _ _ (by omega)]
    refine ⟨by rw [g4]; exact g1.s.tr (rSq_cd _ _ _ _ _), by rw [h54, g1.2 15 (by omega)]; exact h15, by rw [g4, um_c _ _ _ (by omega), um_c _ _ _ (by omega), um_c _ _ _ (by omega)]; exact g1.1 65 (by omega), by rw [h54]; exact g2, g3.e h54, ?_⟩
    rw [g4, hv]
    exact cd_at ha hb hd
/-- readStep -/
theorem s131 {s k : Nat} {σ : hbM} (hs : s < 16) (hT : rTp bt n σ) (hR : rT bt n σ k) (h30 : σ 54 30 = 0) (h15 : σ 54 15 = nI s) : ∃ σ', hb_ev hbSH 131 [.ref 54] σ = some (none, σ') ∧ rSq s σ σ' ∧ rSo bt n s (pSx (tkD bt n) k) σ' := by
  rw [v131, e131_0, s128 hT hR, hb_ci_s]
  unfold pSx
  cases ha : aOf (tkD bt n k) with
  | none =>
    obtain ⟨σ1, a1, a2, a3, a4⟩ := s125f hR h30
    have h15' : σ1 54 15 = nI s := by rw [a2.2 15 (by omega)]; exact h15
    have hx : ∀ y : Int32, y ≠ 4 → y ≠ 5 → y ≠ 7 → ∃ σ', hb_run hbSH 131 (27, [.ref 54, .int y], [.int 0, .ref 54], σ) = some (none, σ') ∧ rSq s σ σ' ∧ rSo bt n s (.inl (1, k)) σ' := by
      intro y y4 y5 y7
      have e30 : hb_up σ1 65 s y 54 30 = nI 1 := by rw [um_c _ _ _ (by omega)]; exact a3
      have e15 : hb_up σ1 65 s y 54 15 = nI s := by rw [um_c _ _ _ (by omega)]; exact h15'
      have e31 : hb_up σ1 65 s y 54 31 = nI (tkS bt n k) := by rw [um_c _ _ _ (by omega)]; exact a4
      rw [e131_27, a1, hb_cv_s, h15', q_inT (by omega) (by omega), hb_g_t, hb_g_nil, q_cl (by omega), if_neg y4, if_pos y5, if_neg y4, if_neg y7]
      split
      · obtain ⟨σ2, b1, b2, b3, b4⟩ := s131_92x y 15 hs e30 (by omega) (by omega) e15
        exact ⟨σ2, b1, (a2.s.tr (rSq_65 _ _ _)).tr b2, b3, by omega, by omega, b4.trans e31⟩
      · obtain ⟨σ2, b1, b2, b3, b4⟩ := s131_92x y 3 hs e30 (by omega) (by omega) e15
        exact ⟨σ2, b1, (a2.s.tr (rSq_65 _ _ _)).tr b2, b3, by omega, by omega, b4.trans e31⟩
    rcases aOf_no ha with z | z | z
    · rw [z, show hbo none = (-1000000 : Int32) from rfl, if_pos rfl]
      exact hx _ (by decide) (by decide) (by decide)
    · rw [z, show hbo (some 2) = (2 : Int32) from rfl, if_neg (by decide), if_pos rfl]
      exact hx _ (by decide) (by decide) (by decide)
    · rw [z, show hbo (some 3) = (3 : Int32) from rfl, if_neg (by decide), if_neg (by decide), if_pos rfl]
      exact hx _ (by decide) (by decide) (by decide)
  | some a =>
    have ha6 := (aOf_lt ha).1
    rw [aOf_so ha]
    obtain ⟨σ1, a1, a2, a3, a4⟩ := s125t hT hR h30
    have h15' : σ1 54 15 = nI s := by rw [a2.g.2 15 (by omega)]; exact h15
    have e27 : ∀ y : Int32, ∃ σ2, σ2 = hb_up σ1 65 s y ∧ rSq s σ σ2 ∧ rTp bt n σ2 ∧ rT bt n σ2 (k + 1) ∧ σ2 54 30 = 0 ∧ σ2 54 15 = nI s ∧ σ2 65 s = y := fun y => by
      have q : rSq s σ (hb_up σ1 65 s y) := a2.g.s.tr (rSq_65 _ _ _)
      exact ⟨_, rfl, q, hT.s q, a3.e (um_c _ _ _ (by omega)), by rw [um_c _ _ _ (by omega)]; exact a4, by rw [um_c _ _ _ (by omega)]; exact h15', um_s _ _ _ _⟩
    have hN : ∀ (y : Int32) (b : Nat) (a : Nat), 1 ≤ b → b < 100 → y = nI (cact a) → a < 6 → a ≠ 2 → a ≠ 3 → pCo (tkD bt n) a (k + 1) = .inr (k + 1, 0) → pTg (tkD bt n) a (k + 1) = pN (tkD bt n) b (k + 1) → ∃ σ', hb_run hbSH 131 (92, [.ref 54, .int y], [.int (nI (b - 1)), .ref 54, .int (nI s), .ref 66], hb_up σ1 65 s y) = some (none, σ') ∧ rSq s σ σ' ∧ rSo bt n s (match pCo (tkD bt n) a (k + 1) with
        | .inl e => .inl e
        | .inr (k2, v) => match pTg (tkD bt n) a k2 with
          | .inl e => .inl e
          | .inr (k3, t) => .inr (k3, a, t, v)) σ' := by
      intro y b a hb1 hb hy ha n2 n3 hC hG
      obtain ⟨σ2, q1, q2, q3, q4, q5, q6, q7⟩ := e27 y
      rw [← q1, hC]
      obtain ⟨σ3, m1, m2, m3⟩ := s131_92 y hs hb1 hb q3 q4 q5 q6
      refine ⟨σ3, m1, q2.tr m2, ?_⟩
      dsimp only
      rw [hG]
      generalize pN (tkD bt n) b (k + 1) = o at m3 ⊢
      match o, m3 with
      | .inl (f, k2), m3 => exact m3
      | .inr (k2, t), m3 =>
        obtain ⟨w1, w2, w3, w4, w5⟩ := m3
        exact ⟨w1, w2, w3, ha, by rw [w5 65 (by omega) (by omega), q7, hy], fun _ _ => w4, fun z => by omega⟩
    have h6 : a = 0 ∨ a = 1 ∨ a = 2 ∨ a = 3 ∨ a = 4 ∨ a = 5 := by omega
    rcases h6 with rfl | rfl | rfl | rfl | rfl | rfl
    · rw [show hbo (some (cact 0)) = (0 : Int32) from rfl, if_neg (by decide), if_neg (by decide), if_neg (by decide), e131_27, a1, hb_cv_s, h15', q_inT (by omega) (by omega), hb_g_t, hb_g_nil, q_cl (by omega), if_neg (by decide), if_pos (by decide), if_neg (by decide), if_neg (by decide), if_neg (by decide)]
      exact hN 0 4 0 (by omega) (by omega) rfl (by omega) (by omega) (by omega) rfl rfl
    · rw [show hbo (some (cact 1)) = (1 : Int32) from rfl, if_neg (by decide), if_neg (by decide), if_neg (by decide), e131_27, a1, hb_cv_s, h15', q_inT (by omega) (by omega), hb_g_t, hb_g_nil, q_cl (by omega), if_neg (by decide), if_pos (by decide), if_neg (by decide), if_neg (by decide), if_neg (by decide)]
      exact hN 1 4 1 (by omega) (by omega) rfl (by omega) (by omega) (by omega) rfl rfl
    · rw [show hbo (some (cact 2)) = (4 : Int32) from rfl, if_neg (by decide), if_neg (by decide), if_neg (by decide), e131_27, a1, hb_cv_s, h15', q_inT (by omega) (by omega), hb_g_t, hb_g_nil, q_cl (by omega), if_pos rfl]
      obtain ⟨σ2, q1, q2, q3, q4, q5, q6, q7⟩ := e27 4
      rw [← q1, e131_50]
      obtain ⟨σ3, m1, m2, m3, m4, m5⟩ := s131_50 hs q3 q4 q5 q6
      rw [m1, hb_cv_s, if_pos rfl, m3, nI_1]
      refine ⟨_, rfl, (q2.tr m2).tr (rSq_15 _ _ _), ?_⟩
      dsimp only
      rw [show pCo (tkD bt n) 2 (k + 1) = pC (tkD bt n) (k + 1) from rfl]
      generalize pC (tkD bt n) (k + 1) = o at m5 ⊢
      match o, m5 with
      | .inl (f, k2), m5 =>
        obtain ⟨w1, w2, w3, w4⟩ := m5
        exact ⟨by rw [um_i _ _ _ (by omega)]; exact w1, w2, w3, by rw [um_i _ _ _ (by omega)]; exact w4⟩
      | .inr (k2, v), m5 =>
        obtain ⟨w1, w2, w3⟩ := m5
        exact ⟨by rw [um_i _ _ _ (by omega)]; exact w1, rT_15 w2, um_s _ _ _ _, by omega, by rw [um_c _ _ _ (by omega), m4, q7]; rfl, fun z => absurd rfl z, fun _ => cd_eq w3 (um_c _ _ _ (by omega)) (um_c _ _ _ (by omega)) (um_c _ _ _ (by omega))⟩
    · rw [show hbo (some (cact 3)) = (5 : Int32) from rfl, if_neg (by decide), if_neg (by decide), if_neg (by decide), e131_27, a1, hb_cv_s, h15', q_inT (by omega) (by omega), hb_g_t, hb_g_nil, q_cl (by omega), if_neg (by decide), if_neg (by decide)]
      obtain ⟨σ2, q1, q2, q3, q4, q5, q6, q7⟩ := e27 5
      rw [← q1, e131_50]
      obtain ⟨σ3, m1, m2, m3, m4, m5⟩ := s131_50 hs q3 q4 q5 q6
      rw [m1, hb_cv_s, if_neg (by decide), if_neg (by decide), if_pos (by decide), m3]
      dsimp only
      rw [show pCo (tkD bt n) 3 (k + 1) = pC (tkD bt n) (k + 1) from rfl]
      have hT3 := q3.s m2
      generalize pC (tkD bt n) (k + 1) = o at m5 ⊢
      match o, m5 with
      | .inl (f, k2), m5 =>
        obtain ⟨w1, w2, w3, w4⟩ := m5
        obtain ⟨σ4, b1, b2, b3, b4⟩ := s131_92x 5 15 hs w1 w2 w3 m3
        exact ⟨σ4, b1, (q2.tr m2).tr b2, b3, w2, w3, b4.trans w4⟩
      | .inr (k2, v), m5 =>
        obtain ⟨w1, w2, w3⟩ := m5
        obtain ⟨σ4, b1, b2, b3⟩ := s131_92 (b := 16) 5 hs (by omega) (by omega) hT3 w2 w1 m3
        refine ⟨σ4, b1, (q2.tr m2).tr b2, ?_⟩
        dsimp only
        rw [show pTg (tkD bt n) 3 k2 = pN (tkD bt n) 16 k2 from rfl]
        generalize pN (tkD bt n) 16 k2 = o at b3 ⊢
        match o, b3 with
        | .inl (f, k3), b3 => exact b3
        | .inr (k3, t), b3 =>
          obtain ⟨g1, g2, g3, g4, g5⟩ := b3
          exact ⟨g1, g2, g3, by omega, by rw [g5 65 (by omega) (by omega), m4, q7]; rfl, fun _ _ => g4, fun _ => cd_eq w3 (g5 62 (by omega) (by omega)) (g5 63 (by omega) (by omega)) (g5 64 (by omega) (by omega))⟩
    · rw [show hbo (some (cact 4)) = (6 : Int32) from rfl, if_neg (by decide), if_neg (by decide), if_neg (by decide), e131_27, a1, hb_cv_s, h15', q_inT (by omega) (by omega), hb_g_t, hb_g_nil, q_cl (by omega), if_neg (by decide), if_pos (by decide), if_neg (by decide), if_neg (by decide), if_pos (by decide)]
      exact hN 6 16 4 (by omega) (by omega) rfl (by omega) (by omega) (by omega) rfl rfl
    · rw [show hbo (some (cact 5)) = (7 : Int32) from rfl, if_neg (by decide), if_neg (by decide), if_neg (by decide), e131_27, a1, hb_cv_s, h15', q_inT (by omega) (by omega), hb_g_t, hb_g_nil, q_cl (by omega), if_neg (by decide), if_pos (by decide), if_neg (by decide), if_pos rfl]
      obtain ⟨σ2, q1, q2, q3, q4, q5, q6, q7⟩ := e27 7
      rw [← q1, nI_1]
      refine ⟨_, rfl, q2.tr (rSq_15 _ _ _), by rw [um_i _ _ _ (by omega)]; exact q5, rT_15 q4, um_s _ _ _ _, by omega, by rw [um_c _ _ _ (by omega), q7]; rfl, fun _ z => absurd rfl z, fun z => by omega⟩
end
