/-! the reference: book -/
section
variable {bt : Nat → Nat} {n : Nat}
/-- what the reference's book leaves alone -/
def rB (σ σ' : hbM) : Prop := (∀ x, x ≠ 54 → x < 58 ∨ 66 < x → σ' x = σ x) ∧ (∀ i, 1 ≤ i → i < 12 ∨ (16 ≤ i ∧ i < 23) ∨ i = 24 ∨ 31 < i → σ' 54 i = σ 54 i) ∧ σ' 54 0 = 0 ∧ σ' 54 23 = 0
theorem s133 {m : Nat} {D : hbD} {σ : hbM} (hm : tkS bt n m = n) (hw : wD D) (hT : tpe σ 67 bt n) (h23 : σ 54 23 = nI n) (h5 : σ 54 5 = nI D.1.1) (h9 : σ 54 9 = nI D.2.1.1) (h10 : σ 54 10 = nI D.2.2.1.1) (h11 : σ 54 11 = nI D.2.2.2.1) (hK : rK σ D) :
    ∃ σ', rB σ σ' ∧ match pA (tkD bt n) (m + 1) 0 D with
      | .inl (fn, kf) => hb_ev hbSH 133 [.ref 54] σ = some (some (.int (-1000100 - nI (tkS bt n kf))), hb_up σ' 54 24 (nI fn)) ∧ rK σ' D
      | .inr D' => hb_ev hbSH 133 [.ref 54] σ = some (some (.int (nI D'.2.2.2.1)), hb_up (hb_up (hb_up (hb_up σ' 54 5 (nI D'.1.1)) 54 9 (nI D'.2.1.1)) 54 10 (nI D'.2.2.1.1)) 54 11 (nI D'.2.2.2.1)) ∧ rK σ' D' ∧ wD D' := by
  rw [v133, e133_0, h23, h5, h9, h10, h11]
  have g : ∃ σ0, σ0 = (hb_up (hb_up (hb_up (hb_up (hb_up (hb_up (hb_up (hb_up (hb_up σ 54 0 0) 54 25 (nI n)) 54 23 0) 54 26 0) 54 30 0) 54 12 (nI D.1.1)) 54 13 (nI D.2.1.1)) 54 14 (nI D.2.2.1.1)) 54 15 (nI D.2.2.2.1)) ∧ (∀ x, x ≠ 54 → σ0 x = σ x) ∧ (∀ i, 1 ≤ i → i < 12 ∨ (16 ≤ i ∧ i < 23) ∨ i = 24 ∨ 31 < i → σ0 54 i = σ 54 i) ∧ σ0 54 0 = 0 ∧ σ0 54 23 = 0 ∧ σ0 54 25 = nI n ∧ σ0 54 26 = nI 0 ∧ σ0 54 30 = 0 ∧ rN σ0 D := by
    refine ⟨_, rfl, fun x hx => ?_, fun i h1 h2 => ?_, ?_, ?_, ?_, ?_, ?_, ?_, ?_, ?_, ?_⟩
    · simp only [um_c _ _ _ hx]
    · rw [um_i _ _ _ (by omega), um_i _ _ _ (by omega), um_i _ _ _ (by omega), um_i _ _ _ (by omega), um_i _ _ _ (by omega), um_i _ _ _ (by omega), um_i _ _ _ (by omega), um_i _ _ _ (by omega), um_i _ _ _ (by omega)]
    all_goals rfl
  obtain ⟨σ0, g0, g1, g2, g3, g4, g5, g6, g7, g8⟩ := g
  rw [← g0]
  have hT0 : rTp bt n σ0 := ⟨⟨hT.1, hT.2.1, fun i hi => by rw [g1 67 (by omega)]; exact hT.2.2 i hi⟩, g5⟩
  obtain ⟨σ1, a1, a2, a3⟩ := s123 (k := 0) n 0 σ0 (by omega) (by omega) hT0 g6 rfl
  rw [v123, a1, hb_cv_s]
  have h13 : ∀ i, i < 26 ∨ 29 < i → σ1 54 i = σ0 54 i := fun i hi => a2.2 i (by omega) (by omega) (by omega) (by omega)
  obtain ⟨σ2, b1, b2⟩ := s133_loop hm m 0 D σ1 (by omega) hw (hT0.g a2.g) a3 (by rw [h13 30 (by omega)]; exact g7) ⟨by rw [h13 12 (by omega)]; exact g8.1, by rw [h13 13 (by omega)]; exact g8.2.1, by rw [h13 14 (by omega)]; exact g8.2.2.1, by rw [h13 15 (by omega)]; exact g8.2.2.2⟩ (hK.g hw (fun x hx => by rw [a2.1 x hx, g1 x hx]))
  refine ⟨σ2, ⟨fun x h1 h2 => by rw [b1.1 x h1 h2, a2.1 x h1, g1 x h1], fun i h1 h2 => by rw [b1.2 i (by omega), h13 i (by omega), g2 i h1 h2], by rw [b1.2 0 (by omega), h13 0 (by omega)]; exact g3, by rw [b1.2 23 (by omega), h13 23 (by omega)]; exact g4⟩, b2⟩
end
