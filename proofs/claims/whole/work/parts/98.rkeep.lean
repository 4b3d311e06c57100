/-! the reference: what a line keeps -/
def rKF (σ : hbM) (F : hbF) : Prop := ∀ i, i < F.1 → σ 58 i = nI (F.2.1 i) ∧ σ 59 i = nI (F.2.2.1 i) ∧ σ 60 i = iI (F.2.2.2 i)
def rKL (σ : hbM) (L : hbL) (o : Nat) : Prop := ∀ i, i < L.1 → σ 61 (o + i) = nI (L.2.1 i) ∧ ∀ j, j < L.2.1 i → mC σ (3 * (o + i) + j) ∧ cM σ (3 * (o + i) + j) = L.2.2 (3 * i + j)
def rKS (σ : hbM) (S : hbSt) : Prop := ∀ i, i < S.1 → σ 65 i = nI (cact (S.2.1 i)) ∧ (S.2.1 i ≠ 2 → S.2.1 i ≠ 5 → σ 66 i = nI (S.2.2.1 i)) ∧ (S.2.1 i = 2 ∨ S.2.1 i = 3 → mC σ (24 + i) ∧ cM σ (24 + i) = S.2.2.2 i)
def rK (σ : hbM) (D : hbD) : Prop := rKF σ D.1 ∧ rKL σ D.2.1 0 ∧ rKL σ D.2.2.1 4 ∧ rKS σ D.2.2.2
def rN (σ : hbM) (D : hbD) : Prop := σ 54 12 = nI D.1.1 ∧ σ 54 13 = nI D.2.1.1 ∧ σ 54 14 = nI D.2.2.1.1 ∧ σ 54 15 = nI D.2.2.2.1
theorem cd_ix {σ σ' : hbM} {p : Nat} {v : Nat} (h : mC σ p ∧ cM σ p = v) (e : σ' 62 p = σ 62 p ∧ σ' 63 p = σ 63 p ∧ σ' 64 p = σ 64 p) : mC σ' p ∧ cM σ' p = v := by
  unfold mC cM tn at h ⊢
  rw [e.1, e.2.1, e.2.2]; exact h
theorem rKF.e {σ σ' : hbM} {F : hbF} (h : rKF σ F) (h8 : σ' 58 = σ 58) (h9 : σ' 59 = σ 59) (h0 : σ' 60 = σ 60) : rKF σ' F := fun i hi => by rw [h8, h9, h0]; exact h i hi
theorem rKL.e {σ σ' : hbM} {L : hbL} {o : Nat} (hw : wLok L) (h : rKL σ L o) (h1 : ∀ i, i < L.1 → σ' 61 (o + i) = σ 61 (o + i)) (h2 : ∀ i j, i < L.1 → j < 3 → σ' 62 (3 * (o + i) + j) = σ 62 (3 * (o + i) + j) ∧ σ' 63 (3 * (o + i) + j) = σ 63 (3 * (o + i) + j) ∧ σ' 64 (3 * (o + i) + j) = σ 64 (3 * (o + i) + j)) : rKL σ' L o := fun i hi => by
  have w3 := (hw.2 i hi).1
  exact ⟨by rw [h1 i hi]; exact (h i hi).1, fun j hj => cd_ix ((h i hi).2 j hj) (h2 i j hi (by omega))⟩
theorem rKS.e {σ σ' : hbM} {S : hbSt} (h : rKS σ S) (h1 : ∀ i, i < S.1 → σ' 65 i = σ 65 i ∧ σ' 66 i = σ 66 i) (h2 : ∀ i, i < S.1 → σ' 62 (24 + i) = σ 62 (24 + i) ∧ σ' 63 (24 + i) = σ 63 (24 + i) ∧ σ' 64 (24 + i) = σ 64 (24 + i)) : rKS σ' S := fun i hi => by
  obtain ⟨a, b, d⟩ := h i hi
  exact ⟨by rw [(h1 i hi).1]; exact a, fun z1 z2 => by rw [(h1 i hi).2]; exact b z1 z2, fun z => cd_ix (d z) (h2 i hi)⟩
theorem rK.g {σ σ' : hbM} {D : hbD} (hw : wD D) (h : rK σ D) (hf : ∀ x, x ≠ 54 → σ' x = σ x) : rK σ' D := by
  have a := fun x (hx : x ≠ 54) i => congrFun (hf x hx) i
  exact ⟨h.1.e (hf 58 (by omega)) (hf 59 (by omega)) (hf 60 (by omega)), rKL.e hw.2.1 h.2.1 (fun i _ => a 61 (by omega) _) (fun i j _ _ => ⟨a 62 (by omega) _, a 63 (by omega) _, a 64 (by omega) _⟩), rKL.e hw.2.2.1 h.2.2.1 (fun i _ => a 61 (by omega) _) (fun i j _ _ => ⟨a 62 (by omega) _, a 63 (by omega) _, a 64 (by omega) _⟩), h.2.2.2.e (fun i _ => ⟨a 65 (by omega) _, a 66 (by omega) _⟩) (fun i _ => ⟨a 62 (by omega) _, a 63 (by omega) _, a 64 (by omega) _⟩)⟩
/-- a line of conds keeps what stands ahead of it -/
theorem rK.q {ln : Nat} {σ σ' : hbM} {D : hbD} (hw : wD D) (h : rK σ D) (hf : rLq ln σ σ') (hl : D.2.1.1 ≤ ln) (hl2 : 4 ≤ ln → 4 + D.2.2.1.1 ≤ ln) (hl8 : ln < 8) : rK σ' D := by
  obtain ⟨f1, f2, f3, f4⟩ := hf
  have wB := hw.2.1.1
  have wG := hw.2.2.1.1
  exact ⟨h.1.e (f1 58 (by omega) (by omega) (by omega) (by omega) (by omega)) (f1 59 (by omega) (by omega) (by omega) (by omega) (by omega)) (f1 60 (by omega) (by omega) (by omega) (by omega) (by omega)),
    rKL.e hw.2.1 h.2.1 (fun i hi => f3 _ (by omega)) (fun i j hi hj => f4 _ (by omega)),
    rKL.e hw.2.2.1 h.2.2.1 (fun i hi => f3 _ (by omega)) (fun i j hi hj => f4 _ (by omega)),
    h.2.2.2.e (fun i _ => ⟨by rw [f1 65 (by omega) (by omega) (by omega) (by omega) (by omega)], by rw [f1 66 (by omega) (by omega) (by omega) (by omega) (by omega)]⟩) (fun i _ => f4 _ (by omega))⟩
theorem rK.s {σ σ' : hbM} {D : hbD} (hw : wD D) (h : rK σ D) (hf : rSq D.2.2.2.1 σ σ') : rK σ' D := by
  obtain ⟨f1, f2, f3, f4⟩ := hf
  have wB := hw.2.1.1
  have wG := hw.2.2.1.1
  exact ⟨h.1.e (f1 58 (by omega) (by omega) (by omega) (by omega) (by omega) (by omega)) (f1 59 (by omega) (by omega) (by omega) (by omega) (by omega) (by omega)) (f1 60 (by omega) (by omega) (by omega) (by omega) (by omega) (by omega)),
    rKL.e hw.2.1 h.2.1 (fun i hi => by rw [f1 61 (by omega) (by omega) (by omega) (by omega) (by omega) (by omega)]) (fun i j hi hj => f4 _ (by omega)),
    rKL.e hw.2.2.1 h.2.2.1 (fun i hi => by rw [f1 61 (by omega) (by omega) (by omega) (by omega) (by omega) (by omega)]) (fun i j hi hj => f4 _ (by omega)),
    h.2.2.2.e (fun i hi => f3 i (by omega)) (fun i hi => f4 _ (by omega))⟩
section
variable {bt : Nat → Nat} {n : Nat}
theorem rY_4 {k : Nat} : (rY bt n k = 4) = (tkD bt n k = 20) := by
  have h15 : WS.length = 15 := rfl
  unfold rY tkD
  by_cases h : tkS bt n k < n
  · rw [if_pos h, if_pos h]
    unfold cOT
    cases hl : isL (bt (tkS bt n k)) with
    | true =>
      rw [if_pos (show true = true from rfl), if_pos (show true = true from rfl)]
      rcases ffW_rg (bt := bt) (j := tkS bt n k) (e := enT bt n (tkS bt n k)) WS 0 with z | z
      · exact propext ⟨fun y => by omega, fun y => by omega⟩
      · exact propext ⟨fun y => by omega, fun y => by omega⟩
    | false =>
      simp only [if_neg (show ¬ false = true by decide)]
      cases hf : isF (bt (tkS bt n k)) with
      | true =>
        rw [if_pos (show true = true from rfl), if_pos (show true = true from rfl)]
        split <;> exact propext ⟨fun y => by omega, fun y => by omega⟩
      | false =>
        simp only [if_neg (show ¬ false = true by decide)]
        by_cases z : bt (tkS bt n k) = 59
        · rw [if_pos z, if_pos z]; exact propext ⟨fun _ => rfl, fun _ => rfl⟩
        · rw [if_neg z, if_neg z]; exact propext ⟨fun y => by omega, fun y => by omega⟩
  · rw [if_neg h, if_neg h]; exact propext ⟨fun y => by omega, fun y => by omega⟩
/-- the end of a line -/
theorem s132_322 {k : Nat} {σ : hbM} (w : Int64) (hT : rTp bt n σ) (hR : rT bt n σ k) (h30 : σ 54 30 = 0) : ∃ σ', (if ¬ σ 54 27 = (4 : Int32) then hb_run hbSH 132 (322, [.ref 54, .long w, .null], [.int 0, .ref 54], σ) else hb_run hbSH 132 (322, [.ref 54, .long w, .null], [.int 1, .ref 54], σ)) = some (none, σ') ∧ rG σ σ' ∧ ((tkD bt n k = 20 ∧ σ' 54 30 = 0 ∧ rT bt n σ' (k + 1)) ∨ (tkD bt n k ≠ 20 ∧ rFa bt n 1 k σ')) := by
  have hy5 : rY bt n k < 5 := by unfold rY; repeat' split
                                 all_goals omega
  have e4 : (σ 54 27 = (4 : Int32)) = (tkD bt n k = 20) := by rw [hR.2.2.2, show (4 : Int32) = nI 4 from rfl, q_eq (by omega) (by omega), rY_4]
  simp only [e4]
  by_cases h : tkD bt n k = 20
  · obtain ⟨σ1, a1, a2, a3, a4⟩ := s125t hT hR h30
    rw [if_neg (fun z => z h), e132_322, a1, hb_cv_s]
    exact ⟨σ1, rfl, a2.g, .inl ⟨h, a4, a3⟩⟩
  · obtain ⟨σ1, a1, a2, a3, a4⟩ := s125f hR h30
    rw [if_pos h, e132_322, a1, hb_cv_s]
    exact ⟨σ1, rfl, a2, .inr ⟨h, a3, by omega, by omega, a4⟩⟩
end
