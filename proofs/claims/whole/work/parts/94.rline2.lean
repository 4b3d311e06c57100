/-! the reference: readLine -/
section
variable {bt : Nat → Nat} {n : Nat}
/-- what readLine leaves -/
def rLo (bt : Nat → Nat) (n ln l1 : Nat) (o : (Nat × Nat) ⊕ (Nat × hbL)) (σ' : hbM) : Prop := match o with
  | .inl (f, k) => σ' 54 30 = nI f ∧ 0 < f ∧ f < 4 ∧ σ' 54 31 = nI (tkS bt n k)
  | .inr (k, L) => σ' 54 30 = 0 ∧ rT bt n σ' k ∧ L.1 = l1 + 1 ∧ σ' 61 ln = nI (L.2.1 l1) ∧ ∀ j, j < L.2.1 l1 → mC σ' (3 * ln + j) ∧ cM σ' (3 * ln + j) = L.2.2 (3 * l1 + j)
theorem rTp.q {ln : Nat} {σ σ' : hbM} (h : rTp bt n σ) (hf : rLq ln σ σ') : rTp bt n σ' := ⟨⟨h.1.1, h.1.2.1, fun i hi => by rw [hf.1 67 (by omega) (by omega) (by omega) (by omega) (by omega)]; exact h.1.2.2 i hi⟩, by rw [hf.2.1 25 (by omega)]; exact h.2⟩
theorem rT.e {k : Nat} {σ σ' : hbM} (h : rT bt n σ k) (hf : σ' 54 = σ 54) : rT bt n σ' k := by
  unfold rT at h ⊢
  rw [hf]
  exact h
/-- a fault stands: the loop ends -/
theorem s130_x {ln i f : Nat} {σ : hbM} (hl : ln < 8) (h30 : σ 54 30 = nI f) (hf : 0 < f) (hf4 : f < 4) (h61 : σ 61 ln = nI i) : hb_run hbSH 130 (43, [.ref 54, .int (nI ln), .int 1], [], σ) = some (none, hb_up σ 61 ln (nI (i + 1))) := by
  have hne : ¬ σ 54 30 = 0 := by rw [h30, q_0, q_eq (by omega) (by omega)]; omega
  rw [e130_43, q_inT (by omega) (by omega), hb_g_t, hb_g_nil, s129x h30 hf hf4, hb_cv_s, hb_g_t, hb_g_t, hb_g_nil, if_pos hne, q_cl (by omega), h61, nI_1, e130_9, if_pos rfl]
theorem s130_9 {ln : Nat} (hl : ln < 8) : ∀ (f i k : Nat) (σ : hbM) (L : hbL), f + i = 3 → rTp bt n σ → rT bt n σ k → σ 54 30 = 0 → σ 61 ln = nI i → lnK σ ln L i → ∃ σ', hb_run hbSH 130 (9, [.ref 54, .int (nI ln), .int 1], [], σ) = some (none, σ') ∧ rLq ln σ σ' ∧ rLo bt n ln L.1 (pCx (tkD bt n) f i k L) σ' := by
  intro f
  induction f with
  | zero =>
    intro i k σ L hfi hT hR h30 h61 hK
    rw [e130_9, if_neg (by decide), s128 hT hR, hb_ci_s, s112, cwD, hb_ci_s]
    unfold pCx
    by_cases hw : 7 ≤ tkD bt n k ∧ tkD bt n k ≤ 10
    · rw [decide_eq_true hw, if_pos hw, if_neg (by decide), q_inT (by omega) (by omega), hb_g_t, hb_g_nil, q_cl (by omega), h61, if_neg (by rw [show i = 3 by omega]; decide)]
      have h124 := s124 hR h30 3
      rw [show nI 3 = (3 : Int32) from rfl] at h124
      rw [h124, hb_cv_s, s130_x (i := 3) (f := 3) hl (by rw [um_i _ _ _ (by omega), um_s]; rfl) (by omega) (by omega) (by rw [um_c _ _ _ (by omega), um_c _ _ _ (by omega), h61, show i = 3 by omega])]
      refine ⟨_, rfl, (bad_g σ 3 _).q.tr (rLq_61 _ _ _), ?_, by omega, by omega, ?_⟩
      · rw [um_c _ _ _ (by omega), um_i _ _ _ (by omega), um_s]; rfl
      · rw [um_c _ _ _ (by omega), um_s]
    · rw [decide_eq_false hw, if_neg hw, if_pos (by decide)]
      obtain ⟨σ1, a1, a2⟩ := s129 (at' := 3 * ln + 3) (by omega) hT hR h30
      have hpC : pC (tkD bt n) k = .inl (1, k) := by unfold pC; exact if_pos (by omega)
      rw [hpC] at a2
      obtain ⟨b1, b2, b3, b4, b5⟩ := a2
      have hne : ¬ σ1 54 30 = 0 := by rw [b2, q_0, q_eq (by omega) (by omega)]; omega
      have eat : (3 : Int32) * nI ln + nI i = nI (3 * ln + 3) := by rw [show (3 : Int32) = nI 3 from rfl, q_mul, q_add, show i = 3 by omega]
      rw [e130_43, q_inT (by omega) (by omega), hb_g_t, hb_g_nil, q_cl (by omega), h61, eat, a1, hb_cv_s, hb_g_t, hb_g_t, hb_g_nil, if_pos hne, e130_9, if_pos rfl]
      refine ⟨_, rfl, b1.q.tr (rLq_61 _ _ _), ?_, b3, b4, ?_⟩
      · rw [um_c _ _ _ (by omega)]; exact b2
      · rw [um_c _ _ _ (by omega)]; exact b5
  | succ f ih =>
    intro i k σ L hfi hT hR h30 h61 hK
    have e43 : hb_run hbSH 130 (9, [.ref 54, .int (nI ln), .int 1], [], σ) = hb_run hbSH 130 (43, [.ref 54, .int (nI ln), .int 1], [], σ) := by
      rw [e130_9, if_neg (by decide), s128 hT hR, hb_ci_s, s112, cwD, hb_ci_s]
      split
      · rfl
      · rw [q_inT (by omega) (by omega), hb_g_t, hb_g_nil, q_cl (by omega), h61, if_pos (by rw [show (3 : Int32) = nI 3 from rfl, q_eq (by omega) (by omega)]; omega)]
    obtain ⟨σ1, a1, a2⟩ := s129 (at' := 3 * ln + i) (by omega) hT hR h30
    have eat : (3 : Int32) * nI ln + nI i = nI (3 * ln + i) := by rw [show (3 : Int32) = nI 3 from rfl, q_mul, q_add]
    rw [e43, e130_43, q_inT (by omega) (by omega), hb_g_t, hb_g_nil, q_cl (by omega), h61, eat, a1, hb_cv_s, hb_g_t, hb_g_t, hb_g_nil]
    unfold pCx
    generalize hp : pC (tkD bt n) k = o at a2 ⊢
    match o, hp, a2 with
    | .inl (f1, k1), _, a2 =>
      obtain ⟨b1, b2, b3, b4, b5⟩ := a2
      have hne : ¬ σ1 54 30 = 0 := by rw [b2, q_0, q_eq (by omega) (by omega)]; omega
      rw [if_pos hne, e130_9, if_pos rfl]
      refine ⟨_, rfl, b1.q.tr (rLq_61 _ _ _), ?_, b3, b4, ?_⟩
      · rw [um_c _ _ _ (by omega)]; exact b2
      · rw [um_c _ _ _ (by omega)]; exact b5
    | .inr (k2, v), hp, a2 =>
      obtain ⟨a, b, d, σ2, hv, ha, hb, hd, g1, g2, g3, g4⟩ := a2
      have h54 : σ1 54 = σ2 54 := by rw [g4, um_c _ _ _ (by omega), um_c _ _ _ (by omega), um_c _ _ _ (by omega)]
      have h61' : σ1 61 ln = nI i := by rw [g4, um_c _ _ _ (by omega), um_c _ _ _ (by omega), um_c _ _ _ (by omega), g1.1 61 (by omega)]; exact h61
      have hQ1 : rLq ln σ σ1 := by rw [g4]; exact g1.q.tr (rLq_cd (by omega) _ _ _ _)
      have hK1 : lnK σ1 ln (putC L i v) (i + 1) := by
        rw [g4]
        exact (hK.eq (g1.1 62 (by omega)) (g1.1 63 (by omega)) (g1.1 64 (by omega))).put ha hb hd hv
      rw [if_neg (fun z => z (by rw [h54]; exact g2)), h61', nI_1]
      have hQ2 : rLq ln σ (hb_up σ1 61 ln (nI (i + 1))) := hQ1.tr (rLq_61 _ _ _)
      have hK2 : lnK (hb_up σ1 61 ln (nI (i + 1))) ln (putC L i v) (i + 1) := hK1.eq (um_c _ _ _ (by omega)) (um_c _ _ _ (by omega)) (um_c _ _ _ (by omega))
      have h54' : hb_up σ1 61 ln (nI (i + 1)) 54 = σ2 54 := by rw [um_c _ _ _ (by omega), h54]
      have h61'' : hb_up σ1 61 ln (nI (i + 1)) 61 ln = nI (i + 1) := um_s _ _ _ _
      generalize hb_up σ1 61 ln (nI (i + 1)) = σ3 at hQ2 hK2 h54' h61'' ⊢
      have hT3 := hT.q hQ2
      have hR3 : rT bt n σ3 k2 := g3.e h54'
      rw [s126 hT3 hR3, hb_cl_s]
      have e4 : (lg_cmp (lN (wv bt n k2)) 6385252 = (0 : Int32)) = (tkD bt n k2 = 4) := propext ((show (6385252 : Int64) = lN (pkW (WS.getD 4 [])) by decide +kernel) ▸ (lg_cmp_eq _ _).trans (wv_iff hT.1.1 hT.1.2.1 (by omega)))
      simp only [e4]
      by_cases h4 : tkD bt n k2 = 4
      · obtain ⟨σ4, m1, m2, m3⟩ := s123n hT3 hR3
        have h430 : σ4 54 30 = 0 := by rw [m2.2 30 (by omega) (by omega) (by omega) (by omega), h54']; exact g2
        obtain ⟨σ5, w1, w2, w3⟩ := ih (i + 1) (k2 + 1) σ4 (putC L i v) (by omega) (hT3.g m2.g) m3 h430 (by rw [m2.1 61 (by omega)]; exact h61'') (hK2.eq (m2.1 62 (by omega)) (m2.1 63 (by omega)) (m2.1 64 (by omega)))
        rw [if_neg (fun z => z h4), m1, hb_cv_s, w1, if_pos h4]
        exact ⟨σ5, rfl, (hQ2.tr m2.g.q).tr w2, w3⟩
      · rw [if_pos h4, e130_9, if_pos rfl, if_neg h4]
        refine ⟨σ3, rfl, hQ2, by rw [h54']; exact g2, hR3, rfl, ?_, ?_⟩
        · rw [h61'']; unfold putC; dsimp only; rw [if_pos rfl]
        · intro j hj
          have : j < i + 1 := by unfold putC at hj; dsimp only at hj; rw [if_pos rfl] at hj; exact hj
          exact hK2 j this
/-- readLine -/
theorem s130 {ln k : Nat} {σ : hbM} (L : hbL) (hl : ln < 8) (hT : rTp bt n σ) (hR : rT bt n σ k) (h30 : σ 54 30 = 0) : ∃ σ', hb_ev hbSH 130 [.ref 54, .int (nI ln)] σ = some (none, σ') ∧ rLq ln σ σ' ∧ rLo bt n ln L.1 (pCx (tkD bt n) 3 0 k L) σ' := by
  rw [v130, e130_0, q_inT (by omega) (by omega), hb_g_t, hb_g_nil, q_cl (by omega)]
  have hq := rLq_61 ln σ 0
  obtain ⟨σ', a1, a2, a3⟩ := s130_9 hl 3 0 k (hb_up σ 61 ln 0) L rfl (hT.q hq) (hR.e (um_c _ _ _ (by omega))) (by rw [um_c _ _ _ (by omega)]; exact h30) (um_s _ _ _ _) (fun j hj => by omega)
  rw [a1]
  exact ⟨σ', rfl, hq.tr a2, a3⟩
end
