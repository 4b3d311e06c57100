/-! the reference: readOne, a flow, whole -/
section
variable {bt : Nat → Nat} {n : Nat}
theorem s132_flow {k : Nat} {σ : hbM} {D : hbD} (hw : wD D) (hT : rTp bt n σ) (hR : rT bt n σ k) (h30 : σ 54 30 = 0) (hN : rN σ D) (hK : rK σ D) (hd : tkD bt n k = 0) : ∃ σ', hb_ev hbSH 132 [.ref 54] σ = some (none, σ') ∧ rO σ σ' ∧ rOut bt n D (pL (tkD bt n) k D) σ' := by
  obtain ⟨n1, n2, n3, n4⟩ := id hN
  have hwF : wFok D.1 := hw.1
  have hp : pL (tkD bt n) k D = (match pFl (tkD bt n) k D.1 with
    | .inl e => .inl e
    | .inr (k', F) => .inr (k', (F, D.2))) := by
    unfold pL
    rw [hd]
    rfl
  rw [hp]
  unfold pFl
  by_cases h4 : 8 ≤ D.1.1
  · rw [if_pos h4]
    obtain ⟨σ1, a1, a2, a3⟩ := s132_full hT hR h30 (by omega) (by rw [hd]; show σ 54 12 = nI 8; rw [n1]; congr 1; have := hwF.1; omega)
    exact ⟨σ1, a1, a2.o, a3, hK.g hw a2.1⟩
  · rw [if_neg h4]
    obtain ⟨σ1, a1, a2, a3, a4⟩ := s125t hT hR h30
    have hT1 := hT.g a2.g
    have hc : σ1 54 12 = nI D.1.1 := by rw [a2.g.2 12 (by omega)]; exact n1
    have hlim : ¬ σ 54 12 = nI 8 := by rw [n1, q_eq (by omega) (by omega)]; omega
    rw [s132_0 hT hR, if_pos (show tkD bt n k < 4 by omega), if_neg (by rw [hd]; exact hlim), e132_114, a1, hb_cv_s, a4, if_pos (by decide)]
    simp only [w_is (k := k) hT (x := 0) (w := 1718382455) (by omega) (by decide +kernel), w_is (k := k) hT (x := 1) (w := 6447460) (by omega) (by decide +kernel), w_is (k := k) hT (x := 2) (w := 1735356260) (by omega) (by decide +kernel), hd]
    rw [if_neg (by decide)]
    obtain ⟨σ2, y, b1, b2, b3⟩ := s127 (b := 4) (by omega) (by omega) hT1 a3 a4
    rw [show nI (4 - 1) = (3 : Int32) from rfl] at b1
    rw [b1, hb_ci_s, hc, q_inT (by omega) (by omega), hb_g_t, hb_g_nil, q_cl (by omega)]
    have hc2 : σ2 54 12 = nI D.1.1 := by rw [b2.2 12 (by omega)]; exact hc
    have q3 : rFq D.1.1 σ (hb_up σ2 58 D.1.1 y) := (a2.g.f.tr b2.f).tr (rFq_58 _ _ _)
    have e58 : hb_up σ2 58 D.1.1 y 58 D.1.1 = y := um_s _ _ _ _
    have e54 : hb_up σ2 58 D.1.1 y 54 = σ2 54 := um_c _ _ _ (by omega)
    generalize hb_up σ2 58 D.1.1 y = σ3 at q3 e58 e54 ⊢
    have hT3 := hT.o q3.o
    generalize pN (tkD bt n) 4 (k + 1) = o at b3 ⊢
    match o, b3 with
    | .inl (f, k2), b3 =>
      obtain ⟨c1, c2, c3, c4⟩ := b3
      have c1' : σ3 54 30 = nI f := by rw [e54]; exact c1
      have hne : ¬ σ3 54 30 = 0 := by rw [c1', q_0, q_eq (by omega) (by omega)]; omega
      rw [s127x c1' c2 c3, hb_ci_s, hc2, q_inT (by omega) (by omega), hb_g_t, hb_g_nil, if_pos hne, if_pos hne, q_cl (by omega)]
      have q5 := (q3.tr (rFq_59 _ σ3 0)).tr (rFq_12 _ _ (hb_up σ3 59 D.1.1 0 54 12 + 1))
      refine ⟨_, rfl, (q3.tr (rFq_59 _ _ _)).tr (rFq_12 _ _ _) |>.o, ⟨?_, c2, c3, ?_⟩, hK.f hw ((q3.tr (rFq_59 _ _ _)).tr (rFq_12 _ _ _))⟩
      · rw [um_i _ _ _ (by omega), um_c _ _ _ (by omega)]; exact c1'
      · rw [um_i _ _ _ (by omega), um_c _ _ _ (by omega), e54]; exact c4
    | .inr (k2, v), b3 =>
      obtain ⟨c1, c2, c3, c4⟩ := b3
      obtain ⟨σ4, y4, d1, d2, d3⟩ := s127 (b := 2) (by omega) (by omega) hT3 (c4.e e54) (by rw [e54]; exact c3)
      rw [show nI (2 - 1) = (1 : Int32) from rfl] at d1
      rw [d1, hb_ci_s, hc2, q_inT (by omega) (by omega), hb_g_t, hb_g_nil, q_cl (by omega)]
      have hc4 : σ4 54 12 = nI D.1.1 := by rw [d2.2 12 (by omega), e54]; exact hc2
      have q5 : rFq D.1.1 σ (hb_up σ4 59 D.1.1 y4) := (q3.tr d2.f).tr (rFq_59 _ _ _)
      have f58 : hb_up σ4 59 D.1.1 y4 58 D.1.1 = nI v := by rw [um_c _ _ _ (by omega), d2.1 58 (by omega), e58, c1]
      have f59 : hb_up σ4 59 D.1.1 y4 59 D.1.1 = y4 := um_s _ _ _ _
      have f54 : hb_up σ4 59 D.1.1 y4 54 = σ4 54 := um_c _ _ _ (by omega)
      rw [hc4, nI_1]
      generalize hb_up σ4 59 D.1.1 y4 = σ5 at q5 f58 f59 f54 ⊢
      have hT5 := hT.o q5.o
      dsimp only
      generalize pN (tkD bt n) 2 k2 = o at d3 ⊢
      match o, d3 with
      | .inl (f, k3), d3 =>
        obtain ⟨g1, g2, g3, g4⟩ := d3
        have hne : ¬ σ4 54 30 = 0 := by rw [g1, q_0, q_eq (by omega) (by omega)]; omega
        rw [if_pos hne, if_pos hne]
        refine ⟨_, rfl, (q5.tr (rFq_12 _ _ _)).o, ⟨?_, g2, g3, ?_⟩, hK.f hw (q5.tr (rFq_12 _ _ _))⟩
        · rw [um_i _ _ _ (by omega), f54]; exact g1
        · rw [um_i _ _ _ (by omega), f54]; exact g4
      | .inr (k3, h), d3 =>
        obtain ⟨g1, g2, g3, g4⟩ := d3
        have hR5 : rT bt n σ5 k3 := g4.e f54
        rw [if_neg (fun z => z g3), s126 hT5 hR5, hb_cl_s]
        simp only [w_is (k := k3) hT (x := 5) (w := 30064) (by omega) (by decide +kernel)]
        have key : ∀ s0 : Int32, (tkD bt n k3 = 5 → s0 = iI 1) → (tkD bt n k3 = 6 → s0 = iI (-1)) → ∃ σ', hb_run hbSH 132 (192, [.ref 54, .long (lN (wv bt n k)), .null], [.int s0, .int (nI D.1.1), .ref 60], σ5) = some (none, σ') ∧ rO σ σ' ∧ rOut bt n D (match (if tkD bt n k3 = 5 then pE (tkD bt n) (k3 + 1) (addF D.1 v h 1) else if tkD bt n k3 = 6 then pE (tkD bt n) (k3 + 1) (addF D.1 v h (-1)) else .inl (1, k3)) with
            | .inl e => .inl e
            | .inr (k', F) => .inr (k', (F, D.2))) σ' := by
          intro s0 h5 h6
          obtain ⟨σ6, m1, m2, m3, m4, m5, m6⟩ := s132_192 (lN (wv bt n k)) (show D.1.1 < 8 by omega) s0 hT5 hR5 (by rw [f54]; exact g3) (by rw [f54]; exact hc4)
          refine ⟨σ6, m1, (q5.tr m2).o, ?_⟩
          have hK6 := hK.f hw (q5.tr m2)
          have hn6 : ∀ i, 13 ≤ i → i < 16 → σ6 54 i = σ 54 i := fun i h1 h2 => (q5.tr m2).2.1 i (by omega) (by omega)
          have done : ∀ r : Int, s0 = iI r → (if tkD bt n (k3 + 1) = 20 then σ6 54 30 = 0 ∧ rT bt n σ6 (k3 + 2) ∧ σ6 54 12 = nI (D.1.1 + 1) else rFa bt n 1 (k3 + 1) σ6) → rOut bt n D (match pE (tkD bt n) (k3 + 1) (addF D.1 v h r) with
              | .inl e => .inl e
              | .inr (k', F) => .inr (k', (F, D.2))) σ6 := by
            intro r hr hm
            unfold pE
            by_cases h20 : tkD bt n (k3 + 1) = 20
            · rw [if_pos h20] at hm ⊢
              exact ⟨hm.1, hm.2.1, ⟨hm.2.2, (hn6 13 (by omega) (by omega)).trans n2, (hn6 14 (by omega) (by omega)).trans n3, (hn6 15 (by omega) (by omega)).trans n4⟩, rKF_add hK6.1 (by rw [m3]; exact f58) (by rw [m4, f59]; exact g1) (by rw [m5]; exact hr), hK6.2⟩
            · rw [if_neg h20] at hm ⊢
              exact ⟨hm, hK6⟩
          by_cases z5 : tkD bt n k3 = 5
          · rw [if_pos z5]; rw [if_pos (Or.inl z5)] at m6; exact done 1 (h5 z5) m6
          · rw [if_neg z5]
            by_cases z6 : tkD bt n k3 = 6
            · rw [if_pos z6]; rw [if_pos (Or.inr z6)] at m6; exact done (-1) (h6 z6) m6
            · rw [if_neg z6]; rw [if_neg (show ¬ (tkD bt n k3 = 5 ∨ tkD bt n k3 = 6) by omega)] at m6; exact ⟨m6, hK6⟩
        by_cases z5 : tkD bt n k3 = 5
        · rw [if_neg (fun z => z z5)]; exact key 1 (fun _ => by decide) (fun z => by omega)
        · rw [if_pos z5]; exact key (-1) (fun z => absurd z z5) (fun _ => by decide)
end
