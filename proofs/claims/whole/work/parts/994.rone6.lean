/-! the reference: readOne -/
section
variable {bt : Nat → Nat} {n : Nat}
theorem s132 {k : Nat} {σ : hbM} {D : hbD} (hw : wD D) (hT : rTp bt n σ) (hR : rT bt n σ k) (h30 : σ 54 30 = 0) (hN : rN σ D) (hK : rK σ D) : ∃ σ', hb_ev hbSH 132 [.ref 54] σ = some (none, σ') ∧ rO σ σ' ∧ rOut bt n D (pL (tkD bt n) k D) σ' := by
  by_cases h0 : tkD bt n k = 0
  · exact s132_flow hw hT hR h30 hN hK h0
  · by_cases h1 : tkD bt n k = 1
    · exact s132_bad hw hT hR h30 hN hK h1
    · by_cases h2 : tkD bt n k = 2
      · exact s132_good hw hT hR h30 hN hK h2
      · by_cases h3 : tkD bt n k = 3
        · exact s132_step hw hT hR h30 hN hK h3
        · obtain ⟨σ1, a1, a2, a3⟩ := s132_no hT hR h30 (by omega)
          refine ⟨σ1, a1, a2.o, ?_⟩
          unfold pL
          rw [if_neg h0, if_neg h1, if_neg h2, if_neg h3]
          exact ⟨a3, hK.g hw a2.1⟩
theorem rY_1 {k : Nat} : (rY bt n k = 1) = ¬ tkS bt n k < n := by
  unfold rY
  by_cases h : tkS bt n k < n
  · rw [if_pos h]
    refine propext ⟨fun y => ?_, fun y => absurd h y⟩
    exfalso
    revert y
    repeat' split
    all_goals (intro y; omega)
  · rw [if_neg h]; exact propext ⟨fun _ => h, fun _ => rfl⟩
end
