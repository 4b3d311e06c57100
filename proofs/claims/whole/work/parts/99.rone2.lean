/-! the reference: readOne, bad and good -/
def rO (σ σ' : hbM) : Prop := (∀ x, x ≠ 54 → x < 58 ∨ 66 < x → σ' x = σ x) ∧ ∀ i, i < 12 ∨ (16 ≤ i ∧ i < 26) ∨ 31 < i → σ' 54 i = σ 54 i
theorem rO.tr {a b d : hbM} (h1 : rO a b) (h2 : rO b d) : rO a d := ⟨fun x hx h => (h2.1 x hx h).trans (h1.1 x hx h), fun i hi => (h2.2 i hi).trans (h1.2 i hi)⟩
theorem rG.o {a b : hbM} (h : rG a b) : rO a b := ⟨fun x hx _ => h.1 x hx, fun i hi => h.2 i (by omega)⟩
theorem rLq.o {ln : Nat} {a b : hbM} (h : rLq ln a b) : rO a b := ⟨fun x hx h1 => h.1 x hx (by omega) (by omega) (by omega) (by omega), fun i hi => h.2.1 i (by omega)⟩
theorem rSq.o {s : Nat} {a b : hbM} (h : rSq s a b) : rO a b := ⟨fun x hx h1 => h.1 x hx (by omega) (by omega) (by omega) (by omega) (by omega), fun i hi => h.2.1 i (by omega) (by omega)⟩
theorem rO_n {σ : hbM} {i : Nat} {v : Int32} (h1 : 12 ≤ i) (h2 : i < 16) : rO σ (hb_up σ 54 i v) := ⟨fun x hx _ => um_c _ _ _ hx, fun j hj => um_i _ _ _ (by omega)⟩
theorem rKL_add {σ : hbM} {L L' : hbL} {o : Nat} (hp : preL L L') (h1 : L'.1 = L.1 + 1) (h : rKL σ L o) (hl : σ 61 (o + L.1) = nI (L'.2.1 L.1)) (hc : ∀ j, j < L'.2.1 L.1 → mC σ (3 * (o + L.1) + j) ∧ cM σ (3 * (o + L.1) + j) = L'.2.2 (3 * L.1 + j)) : rKL σ L' o := by
  intro i hi
  by_cases z : i = L.1
  · subst z; exact ⟨hl, hc⟩
  · obtain ⟨p1, p2⟩ := hp.2 i (by omega)
    rw [p1]
    refine ⟨(h i (by omega)).1, fun j hj => ?_⟩
    rw [p2 j hj]
    exact (h i (by omega)).2 j hj
theorem rT_n {bt : Nat → Nat} {n k i : Nat} {σ : hbM} {v : Int32} (h : rT bt n σ k) (hi : i < 26) : rT bt n (hb_up σ 54 i v) k := by
  unfold rT at h ⊢
  rw [um_i _ _ _ (by omega), um_i _ _ _ (by omega), um_i _ _ _ (by omega), um_i _ _ _ (by omega)]
  exact h
theorem rTp.o {bt : Nat → Nat} {n : Nat} {σ σ' : hbM} (h : rTp bt n σ) (hf : rO σ σ') : rTp bt n σ' := ⟨⟨h.1.1, h.1.2.1, fun i hi => by rw [hf.1 67 (by omega) (by omega)]; exact h.1.2.2 i hi⟩, by rw [hf.2 25 (by omega)]; exact h.2⟩
section
variable {bt : Nat → Nat} {n : Nat}
/-- what a line leaves -/
def rOut (bt : Nat → Nat) (n : Nat) (D : hbD) (o : (Nat × Nat) ⊕ (Nat × hbD)) (σ' : hbM) : Prop := match o with
  | .inl (f, k2) => rFa bt n f k2 σ' ∧ rK σ' D
  | .inr (k', D') => σ' 54 30 = 0 ∧ rT bt n σ' k' ∧ rN σ' D' ∧ rK σ' D'
theorem s132_bad {k : Nat} {σ : hbM} {D : hbD} (hw : wD D) (hT : rTp bt n σ) (hR : rT bt n σ k) (h30 : σ 54 30 = 0) (hN : rN σ D) (hK : rK σ D) (hd : tkD bt n k = 1) : ∃ σ', hb_ev hbSH 132 [.ref 54] σ = some (none, σ') ∧ rO σ σ' ∧ rOut bt n D (pL (tkD bt n) k D) σ' := by
  obtain ⟨n1, n2, n3, n4⟩ := id hN
  have hwL : wLok D.2.1 := hw.2.1
  have hp : pL (tkD bt n) k D = (match pLn (tkD bt n) k D.2.1 with
    | .inl e => .inl e
    | .inr (k', L) => .inr (k', (D.1, L, D.2.2))) := by
    unfold pL
    rw [hd]
    rfl
  have hok := fun k' L' => pLn_ok (c := tkD bt n) (k := k) (k' := k') (L' := L') hwL
  rw [hp]
  unfold pLn at hok ⊢
  by_cases h4 : 4 ≤ D.2.1.1
  · rw [if_pos h4]
    obtain ⟨σ1, a1, a2, a3⟩ := s132_full hT hR h30 (by omega) (by rw [hd]; show σ 54 13 = nI 4; rw [n2]; congr 1; have := hwL.1; omega)
    exact ⟨σ1, a1, a2.o, a3, hK.g hw a2.1⟩
  · rw [if_neg h4]
    rw [if_neg h4] at hok
    obtain ⟨σ1, a1, a2, a3, a4⟩ := s125t hT hR h30
    have hT1 := hT.g a2.g
    have hc : σ1 54 13 = nI D.2.1.1 := by rw [a2.g.2 13 (by omega)]; exact n2
    have wB := hw.2.1.1
    have wG := hw.2.2.1.1
    have hlim : ¬ σ 54 13 = nI 4 := by rw [n2, q_eq (by omega) (by omega)]; omega
    rw [s132_0 hT hR, if_pos (show tkD bt n k < 4 by omega), if_neg (by rw [hd]; exact hlim), e132_114, a1, hb_cv_s, a4, if_pos (by decide)]
    simp only [w_is (k := k) hT (x := 0) (w := 1718382455) (by omega) (by decide +kernel), w_is (k := k) hT (x := 1) (w := 6447460) (by omega) (by decide +kernel), w_is (k := k) hT (x := 2) (w := 1735356260) (by omega) (by decide +kernel), hd]
    rw [if_pos (by decide), if_neg (by decide)]
    obtain ⟨σ2, b1, b2, b3⟩ := s130 D.2.1 (show D.2.1.1 < 8 by omega) hT1 a3 a4
    rw [hc, b1, hb_cv_s]
    have hc2 : σ2 54 13 = nI D.2.1.1 := by rw [b2.2.1 13 (by omega)]; exact hc
    have hK2 : rK σ2 D := (hK.g hw a2.1).q hw b2 (by omega) (by omega) (by omega)
    have hO2 : rO σ σ2 := a2.g.o.tr b2.o
    have hK3 : ∀ v, rK (hb_up σ2 54 13 v) D := fun v => hK2.g hw (fun x hx => um_c _ _ _ hx)
    have hO3 : ∀ v, rO σ (hb_up σ2 54 13 v) := fun v => hO2.tr (rO_n (by omega) (by omega))
    simp only [pCx_eq] at hok ⊢
    rw [hc2, nI_1]
    generalize pCx (tkD bt n) 3 0 (k + 1) D.2.1 = o at b3 hok ⊢
    match o, b3, hok with
    | .inl (f, k2), b3, hok =>
      obtain ⟨c1, c2, c3, c4⟩ := b3
      rw [if_pos (by rw [c1, q_0, q_eq (by omega) (by omega)]; omega)]
      exact ⟨_, rfl, hO3 _, ⟨by rw [um_i _ _ _ (by omega)]; exact c1, c2, c3, by rw [um_i _ _ _ (by omega)]; exact c4⟩, hK3 _⟩
    | .inr (k2, L'), b3, hok =>
      obtain ⟨c1, c2, c3, c4, c5⟩ := b3
      rw [if_neg (fun z => z c1)]
      have hO := hO3 (nI (D.2.1.1 + 1))
      have hKD := hK3 (nI (D.2.1.1 + 1))
      have e27 : hb_up σ2 54 13 (nI (D.2.1.1 + 1)) 54 27 = σ2 54 27 := um_i _ _ _ (by omega)
      have e30 : hb_up σ2 54 13 (nI (D.2.1.1 + 1)) 54 30 = 0 := by rw [um_i _ _ _ (by omega)]; exact c1
      have eT := rT_n (i := 13) (v := nI (D.2.1.1 + 1)) c2 (by omega)
      have e61 : hb_up σ2 54 13 (nI (D.2.1.1 + 1)) 61 (D.2.1.1) = nI (L'.2.1 D.2.1.1) := by rw [um_c _ _ _ (by omega)]; exact c4
      have ecd : ∀ j, j < L'.2.1 D.2.1.1 → mC (hb_up σ2 54 13 (nI (D.2.1.1 + 1))) (3 * (D.2.1.1) + j) ∧ cM (hb_up σ2 54 13 (nI (D.2.1.1 + 1))) (3 * (D.2.1.1) + j) = L'.2.2 (3 * D.2.1.1 + j) := fun j hj => cd_eq (c5 j hj) (um_c _ _ _ (by omega)) (um_c _ _ _ (by omega)) (um_c _ _ _ (by omega))
      have en : ∀ i, i ≠ 13 → 12 ≤ i → i < 16 → hb_up σ2 54 13 (nI (D.2.1.1 + 1)) 54 i = σ 54 i := fun i h1 h2 h3 => by rw [um_i _ _ _ h1, b2.2.1 i (by omega), a2.g.2 i (by omega)]
      have ec : hb_up σ2 54 13 (nI (D.2.1.1 + 1)) 54 13 = nI (D.2.1.1 + 1) := um_s _ _ _ _
      rw [← e27]
      generalize hb_up σ2 54 13 (nI (D.2.1.1 + 1)) = σ3 at hO hKD e30 eT e61 ecd en ec ⊢
      obtain ⟨σ4, m1, m2, m3⟩ := s132_322 (lN (wv bt n k)) (hT.o hO) eT e30
      refine ⟨σ4, m1, hO.tr m2.o, ?_⟩
      have hK4 := hKD.g hw m2.1
      unfold pE at hok ⊢
      dsimp only at hok ⊢
      rcases m3 with ⟨h20, t1, t2⟩ | ⟨h20, t1⟩
      · rw [if_pos h20] at hok ⊢
        have hpre := (hok _ _ rfl).2.2
        have q : ∀ i, 12 ≤ i → i < 16 → σ4 54 i = σ3 54 i := fun i h1 h2 => m2.2 i (by omega)
        refine ⟨t1, t2, ?_, ?_⟩
        · exact ⟨by rw [q 12 (by omega) (by omega), en 12 (by omega) (by omega) (by omega)]; exact n1, by rw [q 13 (by omega) (by omega), ec]; show _ = nI L'.1; rw [c3], by rw [q 14 (by omega) (by omega), en 14 (by omega) (by omega) (by omega)]; exact n3, by rw [q 15 (by omega) (by omega), en 15 (by omega) (by omega) (by omega)]; exact n4⟩
        · have hA : rKL σ4 L' 0 := rKL_add hpre c3 hK4.2.1 (by rw [m2.1 61 (by omega), Nat.zero_add]; exact e61) (fun j hj => by rw [Nat.zero_add]; exact cd_eq (ecd j hj) (m2.1 62 (by omega)) (m2.1 63 (by omega)) (m2.1 64 (by omega)))
          exact ⟨hK4.1, hA, hK4.2.2.1, hK4.2.2.2⟩
      · rw [if_neg h20]
        exact ⟨t1, hK4⟩
theorem s132_good {k : Nat} {σ : hbM} {D : hbD} (hw : wD D) (hT : rTp bt n σ) (hR : rT bt n σ k) (h30 : σ 54 30 = 0) (hN : rN σ D) (hK : rK σ D) (hd : tkD bt n k = 2) : ∃ σ', hb_ev hbSH 132 [.ref 54] σ = some (none, σ') ∧ rO σ σ' ∧ rOut bt n D (pL (tkD bt n) k D) σ' := by
  obtain ⟨n1, n2, n3, n4⟩ := id hN
  have hwL : wLok D.2.2.1 := hw.2.2.1
  have hp : pL (tkD bt n) k D = (match pLn (tkD bt n) k D.2.2.1 with
    | .inl e => .inl e
    | .inr (k', L) => .inr (k', (D.1, D.2.1, L, D.2.2.2))) := by
    unfold pL
    rw [hd]
    rfl
  have hok := fun k' L' => pLn_ok (c := tkD bt n) (k := k) (k' := k') (L' := L') hwL
  rw [hp]
  unfold pLn at hok ⊢
  by_cases h4 : 4 ≤ D.2.2.1.1
  · rw [if_pos h4]
    obtain ⟨σ1, a1, a2, a3⟩ := s132_full hT hR h30 (by omega) (by rw [hd]; show σ 54 14 = nI 4; rw [n3]; congr 1; have := hwL.1; omega)
    exact ⟨σ1, a1, a2.o, a3, hK.g hw a2.1⟩
  · rw [if_neg h4]
    rw [if_neg h4] at hok
    obtain ⟨σ1, a1, a2, a3, a4⟩ := s125t hT hR h30
    have hT1 := hT.g a2.g
    have hc : σ1 54 14 = nI D.2.2.1.1 := by rw [a2.g.2 14 (by omega)]; exact n3
    have wB := hw.2.1.1
    have wG := hw.2.2.1.1
    have hlim : ¬ σ 54 14 = nI 4 := by rw [n3, q_eq (by omega) (by omega)]; omega
    rw [s132_0 hT hR, if_pos (show tkD bt n k < 4 by omega), if_neg (by rw [hd]; exact hlim), e132_114, a1, hb_cv_s, a4, if_pos (by decide)]
    simp only [w_is (k := k) hT (x := 0) (w := 1718382455) (by omega) (by decide +kernel), w_is (k := k) hT (x := 1) (w := 6447460) (by omega) (by decide +kernel), w_is (k := k) hT (x := 2) (w := 1735356260) (by omega) (by decide +kernel), hd]
    rw [if_pos (by decide), if_pos (by decide), if_neg (by decide)]
    obtain ⟨σ2, b1, b2, b3⟩ := s130 D.2.2.1 (show 4 + D.2.2.1.1 < 8 by omega) hT1 a3 a4
    rw [hc, show (4 : Int32) = nI 4 from rfl, q_add, b1, hb_cv_s]
    have hc2 : σ2 54 14 = nI D.2.2.1.1 := by rw [b2.2.1 14 (by omega)]; exact hc
    have hK2 : rK σ2 D := (hK.g hw a2.1).q hw b2 (by omega) (by omega) (by omega)
    have hO2 : rO σ σ2 := a2.g.o.tr b2.o
    have hK3 : ∀ v, rK (hb_up σ2 54 14 v) D := fun v => hK2.g hw (fun x hx => um_c _ _ _ hx)
    have hO3 : ∀ v, rO σ (hb_up σ2 54 14 v) := fun v => hO2.tr (rO_n (by omega) (by omega))
    simp only [pCx_eq] at hok ⊢
    rw [hc2, nI_1]
    generalize pCx (tkD bt n) 3 0 (k + 1) D.2.2.1 = o at b3 hok ⊢
    match o, b3, hok with
    | .inl (f, k2), b3, hok =>
      obtain ⟨c1, c2, c3, c4⟩ := b3
      rw [if_pos (by rw [c1, q_0, q_eq (by omega) (by omega)]; omega)]
      exact ⟨_, rfl, hO3 _, ⟨by rw [um_i _ _ _ (by omega)]; exact c1, c2, c3, by rw [um_i _ _ _ (by omega)]; exact c4⟩, hK3 _⟩
    | .inr (k2, L'), b3, hok =>
      obtain ⟨c1, c2, c3, c4, c5⟩ := b3
      rw [if_neg (fun z => z c1)]
      have hO := hO3 (nI (D.2.2.1.1 + 1))
      have hKD := hK3 (nI (D.2.2.1.1 + 1))
      have e27 : hb_up σ2 54 14 (nI (D.2.2.1.1 + 1)) 54 27 = σ2 54 27 := um_i _ _ _ (by omega)
      have e30 : hb_up σ2 54 14 (nI (D.2.2.1.1 + 1)) 54 30 = 0 := by rw [um_i _ _ _ (by omega)]; exact c1
      have eT := rT_n (i := 14) (v := nI (D.2.2.1.1 + 1)) c2 (by omega)
      have e61 : hb_up σ2 54 14 (nI (D.2.2.1.1 + 1)) 61 (4 + D.2.2.1.1) = nI (L'.2.1 D.2.2.1.1) := by rw [um_c _ _ _ (by omega)]; exact c4
      have ecd : ∀ j, j < L'.2.1 D.2.2.1.1 → mC (hb_up σ2 54 14 (nI (D.2.2.1.1 + 1))) (3 * (4 + D.2.2.1.1) + j) ∧ cM (hb_up σ2 54 14 (nI (D.2.2.1.1 + 1))) (3 * (4 + D.2.2.1.1) + j) = L'.2.2 (3 * D.2.2.1.1 + j) := fun j hj => cd_eq (c5 j hj) (um_c _ _ _ (by omega)) (um_c _ _ _ (by omega)) (um_c _ _ _ (by omega))
      have en : ∀ i, i ≠ 14 → 12 ≤ i → i < 16 → hb_up σ2 54 14 (nI (D.2.2.1.1 + 1)) 54 i = σ 54 i := fun i h1 h2 h3 => by rw [um_i _ _ _ h1, b2.2.1 i (by omega), a2.g.2 i (by omega)]
      have ec : hb_up σ2 54 14 (nI (D.2.2.1.1 + 1)) 54 14 = nI (D.2.2.1.1 + 1) := um_s _ _ _ _
      rw [← e27]
      generalize hb_up σ2 54 14 (nI (D.2.2.1.1 + 1)) = σ3 at hO hKD e30 eT e61 ecd en ec ⊢
      obtain ⟨σ4, m1, m2, m3⟩ := s132_322 (lN (wv bt n k)) (hT.o hO) eT e30
      refine ⟨σ4, m1, hO.tr m2.o, ?_⟩
      have hK4 := hKD.g hw m2.1
      unfold pE at hok ⊢
      dsimp only at hok ⊢
      rcases m3 with ⟨h20, t1, t2⟩ | ⟨h20, t1⟩
      · rw [if_pos h20] at hok ⊢
        have hpre := (hok _ _ rfl).2.2
        have q : ∀ i, 12 ≤ i → i < 16 → σ4 54 i = σ3 54 i := fun i h1 h2 => m2.2 i (by omega)
        refine ⟨t1, t2, ?_, ?_⟩
        · exact ⟨by rw [q 12 (by omega) (by omega), en 12 (by omega) (by omega) (by omega)]; exact n1, by rw [q 13 (by omega) (by omega), en 13 (by omega) (by omega) (by omega)]; exact n2, by rw [q 14 (by omega) (by omega), ec]; show _ = nI L'.1; rw [c3], by rw [q 15 (by omega) (by omega), en 15 (by omega) (by omega) (by omega)]; exact n4⟩
        · have hA : rKL σ4 L' 4 := rKL_add hpre c3 hK4.2.2.1 (by rw [m2.1 61 (by omega)]; exact e61) (fun j hj => by exact cd_eq (ecd j hj) (m2.1 62 (by omega)) (m2.1 63 (by omega)) (m2.1 64 (by omega)))
          exact ⟨hK4.1, hK4.2.1, hA, hK4.2.2.2⟩
      · rw [if_neg h20]
        exact ⟨t1, hK4⟩
end
