/-! the reference: readOne, a step -/
section
variable {bt : Nat → Nat} {n : Nat}
theorem rKS_add {σ : hbM} {S : hbSt} {a t v : Nat} (h : rKS σ S) (h1 : σ 65 S.1 = nI (cact a)) (h2 : a ≠ 2 → a ≠ 5 → σ 66 S.1 = nI t) (h3 : a = 2 ∨ a = 3 → mC σ (24 + S.1) ∧ cM σ (24 + S.1) = v) : rKS σ (addS S a t v) := by
  intro i hi
  have hi' : i < S.1 + 1 := hi
  unfold addS
  dsimp only
  by_cases z : i = S.1
  · subst z
    simp only [if_pos (show S.1 = S.1 from rfl)]
    exact ⟨h1, h2, h3⟩
  · simp only [if_neg z]
    exact h i (by omega)
theorem s132_step {k : Nat} {σ : hbM} {D : hbD} (hw : wD D) (hT : rTp bt n σ) (hR : rT bt n σ k) (h30 : σ 54 30 = 0) (hN : rN σ D) (hK : rK σ D) (hd : tkD bt n k = 3) : ∃ σ', hb_ev hbSH 132 [.ref 54] σ = some (none, σ') ∧ rO σ σ' ∧ rOut bt n D (pL (tkD bt n) k D) σ' := by
  obtain ⟨n1, n2, n3, n4⟩ := id hN
  have hwS : wS D.2.2.2 := hw.2.2.2
  have hp : pL (tkD bt n) k D = (match pSt (tkD bt n) k D.2.2.2 with
    | .inl e => .inl e
    | .inr (k', S) => .inr (k', (D.1, D.2.1, D.2.2.1, S))) := by
    unfold pL
    rw [hd]
    rfl
  rw [hp, pSx_eq]
  by_cases h4 : 16 ≤ D.2.2.2.1
  · rw [if_pos h4]
    obtain ⟨σ1, a1, a2, a3⟩ := s132_full hT hR h30 (by omega) (by rw [hd]; show σ 54 15 = nI 16; rw [n4]; congr 1; have := hwS.1; omega)
    exact ⟨σ1, a1, a2.o, a3, hK.g hw a2.1⟩
  · rw [if_neg h4]
    obtain ⟨σ1, a1, a2, a3, a4⟩ := s125t hT hR h30
    have hT1 := hT.g a2.g
    have hc : σ1 54 15 = nI D.2.2.2.1 := by rw [a2.g.2 15 (by omega)]; exact n4
    have hlim : ¬ σ 54 15 = nI 16 := by rw [n4, q_eq (by omega) (by omega)]; omega
    rw [s132_0 hT hR, if_pos (show tkD bt n k < 4 by omega), if_neg (by rw [hd]; exact hlim), e132_114, a1, hb_cv_s, a4, if_pos (by decide)]
    simp only [w_is (k := k) hT (x := 0) (w := 1718382455) (by omega) (by decide +kernel), w_is (k := k) hT (x := 1) (w := 6447460) (by omega) (by decide +kernel), w_is (k := k) hT (x := 2) (w := 1735356260) (by omega) (by decide +kernel), hd]
    rw [if_pos (by decide), if_pos (by decide), if_pos (by decide)]
    obtain ⟨σ2, b1, b2, b3⟩ := s131 (show D.2.2.2.1 < 16 by omega) hT1 a3 a4 hc
    rw [b1, hb_cv_s]
    have hK2 : rK σ2 D := (hK.g hw a2.1).s hw b2
    have hO2 : rO σ σ2 := a2.g.o.tr b2.o
    generalize pSx (tkD bt n) (k + 1) = o at b3 ⊢
    match o, b3 with
    | .inl (f, k2), b3 =>
      obtain ⟨c1, c2, c3, c4⟩ := b3
      rw [if_pos (by rw [c1, q_0, q_eq (by omega) (by omega)]; omega)]
      exact ⟨_, rfl, hO2, ⟨c1, c2, c3, c4⟩, hK2⟩
    | .inr (k3, a, t, v), b3 =>
      obtain ⟨c1, c2, c3, c4, c5, c6, c7⟩ := b3
      rw [if_neg (fun z => z c1)]
      obtain ⟨σ4, m1, m2, m3⟩ := s132_322 (lN (wv bt n k)) (hT.o hO2) c2 c1
      refine ⟨σ4, m1, hO2.tr m2.o, ?_⟩
      have hK4 := hK2.g hw m2.1
      unfold pE
      dsimp only
      rcases m3 with ⟨h20, t1, t2⟩ | ⟨h20, t1⟩
      · rw [if_pos h20]
        have q : ∀ i, 12 ≤ i → i < 15 → σ4 54 i = σ 54 i := fun i h1 h2 => by rw [m2.2 i (by omega), b2.2.1 i (by omega) (by omega), a2.g.2 i (by omega)]
        refine ⟨t1, t2, ⟨(q 12 (by omega) (by omega)).trans n1, (q 13 (by omega) (by omega)).trans n2, (q 14 (by omega) (by omega)).trans n3, ?_⟩, hK4.1, hK4.2.1, hK4.2.2.1, ?_⟩
        · rw [m2.2 15 (by omega), c3]; rfl
        · exact rKS_add hK4.2.2.2 (by rw [m2.1 65 (by omega)]; exact c5) (fun z1 z2 => by rw [m2.1 66 (by omega)]; exact c6 z1 z2) (fun z => cd_eq (c7 z) (m2.1 62 (by omega)) (m2.1 63 (by omega)) (m2.1 64 (by omega)))
      · rw [if_neg h20]
        exact ⟨t1, hK4⟩
end
