/-! the reference: book, line by line -/
theorem rK.pre {σ : hbM} {D D' : hbD} (h : rK σ D') (hp : preD D D') : rK σ D := by
  obtain ⟨p1, p2, p3, p4⟩ := hp
  have hL : ∀ {L L' : hbL} {o : Nat}, preL L L' → rKL σ L' o → rKL σ L o := fun {L L' o} hp h i hi => by
    obtain ⟨q1, q2⟩ := hp.2 i hi
    obtain ⟨r1, r2⟩ := h i (Nat.lt_of_lt_of_le hi hp.1)
    rw [q1] at r1 r2
    exact ⟨r1, fun j hj => by rw [← q2 j hj]; exact r2 j hj⟩
  refine ⟨fun i hi => ?_, hL p2 h.2.1, hL p3 h.2.2.1, fun i hi => ?_⟩
  · obtain ⟨q1, q2, q3⟩ := p1.2 i hi
    rw [← q1, ← q2, ← q3]
    exact h.1 i (Nat.lt_of_lt_of_le hi p1.1)
  · obtain ⟨q1, q2, q3⟩ := p4.2 i hi
    rw [← q1, ← q2, ← q3]
    exact h.2.2.2 i (Nat.lt_of_lt_of_le hi p4.1)
section
variable {bt : Nat → Nat} {n : Nat}
theorem tkD_21 {k : Nat} : (tkD bt n k = 21) = ¬ tkS bt n k < n := by
  have h15 : WS.length = 15 := rfl
  unfold tkD
  by_cases h : tkS bt n k < n
  · rw [if_pos h]
    refine propext ⟨fun y => ?_, fun y => absurd h y⟩
    exfalso
    unfold cOT at y
    split at y
    · rcases ffW_rg (bt := bt) (j := tkS bt n k) (e := enT bt n (tkS bt n k)) WS 0 with z | z <;> omega
    · split at y
      · split at y <;> omega
      · split at y <;> omega
  · rw [if_neg h]; exact propext ⟨fun _ => h, fun _ => rfl⟩
theorem tkS_end {m : Nat} (h : tkS bt n m = n) : ∀ j, tkS bt n (m + j) = n := by
  intro j
  induction j with
  | zero => exact h
  | succ j ih => rw [← Nat.add_assoc]; unfold tkS; rw [ih, if_neg (by omega)]
theorem s133_loop {m : Nat} (hm : tkS bt n m = n) : ∀ (f k : Nat) (D : hbD) (σ : hbM), m ≤ k + f → wD D → rTp bt n σ → rT bt n σ k → σ 54 30 = 0 → rN σ D → rK σ D →
    ∃ σ', rO σ σ' ∧ match pA (tkD bt n) (f + 1) k D with
      | .inl (fn, kf) => hb_run hbSH 133 (64, [.ref 54], [], σ) = some (some (.int (-1000100 - nI (tkS bt n kf))), hb_up σ' 54 24 (nI fn)) ∧ rK σ' D
      | .inr D' => hb_run hbSH 133 (64, [.ref 54], [], σ) = some (some (.int (nI D'.2.2.2.1)), hb_up (hb_up (hb_up (hb_up σ' 54 5 (nI D'.1.1)) 54 9 (nI D'.2.1.1)) 54 10 (nI D'.2.2.1.1)) 54 11 (nI D'.2.2.2.1)) ∧ rK σ' D' ∧ wD D' := by
  intro f
  induction f with
  | zero =>
    intro k D σ hk hw hT hR h30 hN hK
    have hend : tkS bt n k = n := by
      have := tkS_end hm (k - m)
      rw [show m + (k - m) = k by omega] at this
      exact this
    have h21 : tkD bt n k = 21 := by rw [tkD_21]; omega
    have hy : rY bt n k = 1 := by rw [rY_1]; omega
    refine ⟨σ, ⟨fun _ _ _ => rfl, fun _ _ => rfl⟩, ?_⟩
    unfold pA
    rw [if_pos h21]
    refine ⟨?_, hK, hw⟩
    rw [e133_64, h30, if_neg (fun z => z rfl), hR.2.2.2, hy, if_pos (by decide), if_pos (by decide), hN.1, hN.2.1, hN.2.2.1, hN.2.2.2]
  | succ f ih =>
    intro k D σ hk hw hT hR h30 hN hK
    unfold pA
    by_cases h21 : tkD bt n k = 21
    · have hy : rY bt n k = 1 := by rw [rY_1, ← tkD_21]; exact h21
      refine ⟨σ, ⟨fun _ _ _ => rfl, fun _ _ => rfl⟩, ?_⟩
      rw [if_pos h21]
      refine ⟨?_, hK, hw⟩
      rw [e133_64, h30, if_neg (fun z => z rfl), hR.2.2.2, hy, if_pos (by decide), if_pos (by decide), hN.1, hN.2.1, hN.2.2.1, hN.2.2.2]
    · have hy : ¬ rY bt n k = 1 := by rw [rY_1, ← tkD_21]; exact h21
      have hy5 : rY bt n k < 5 := by unfold rY; repeat' split
                                     all_goals omega
      obtain ⟨σ1, a1, a2, a3⟩ := s132 hw hT hR h30 hN hK
      have hok := fun k' D' => pL_ok (c := tkD bt n) (k := k) (k' := k') (D' := D') hw
      rw [if_neg h21]
      have hstep : hb_run hbSH 133 (64, [.ref 54], [], σ) = hb_run hbSH 133 (64, [.ref 54], [], σ1) := by
        rw [e133_64, h30, if_neg (fun z => z rfl), hR.2.2.2, if_neg (by rw [show (1 : Int32) = nI 1 from rfl, q_eq (by omega) (by omega)]; exact hy), a1, hb_cv_s]
      rw [hstep]
      generalize pL (tkD bt n) k D = o at a3 hok ⊢
      match o, a3, hok with
      | .inl (fn, kf), a3, _ =>
        obtain ⟨⟨c1, c2, c3, c4⟩, c5⟩ := a3
        refine ⟨σ1, a2, ?_, c5⟩
        rw [e133_64, c1, c4, if_pos (by rw [q_0, q_eq (by omega) (by omega)]; omega), if_neg (by rw [q_0, q_le (by omega) (by omega)]; omega)]
      | .inr (k', D'), a3, hok =>
        obtain ⟨c1, c2, c3, c4⟩ := a3
        obtain ⟨w1, w2, w3⟩ := hok k' D' rfl
        obtain ⟨σ2, b1, b2⟩ := ih k' D' σ1 (by omega) w1 (hT.o a2) c2 c1 c3 c4
        refine ⟨σ2, a2.tr b1, ?_⟩
        dsimp only
        generalize pA (tkD bt n) (f + 1) k' D' = o at b2 ⊢
        match o, b2 with
        | .inl (fn, kf), b2 => exact ⟨b2.1, b2.2.pre w3⟩
        | .inr D2, b2 => exact b2
end
