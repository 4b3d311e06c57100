/-! the reference: readOne, which line it is -/
section
variable {bt : Nat → Nat} {n : Nat}
theorem w_is {k x : Nat} {w : Int64} {σ : hbM} (hT : rTp bt n σ) (hx : x < 15) (hw : w = lN (pkW (WS.getD x []))) : (lg_cmp (lN (wv bt n k)) w = (0 : Int32)) = (tkD bt n k = x) := by
  rw [hw]
  exact propext ((lg_cmp_eq _ _).trans (wv_iff hT.1.1 hT.1.2.1 hx))
/-- the count of the list that a line is for, and its limit -/
def lnC (d : Nat) : Nat := 12 + d
def lnM (d : Nat) : Nat := if d = 0 then 8 else if d = 3 then 16 else 4
theorem s132_0 {k : Nat} {σ : hbM} (hT : rTp bt n σ) (hR : rT bt n σ k) : hb_ev hbSH 132 [.ref 54] σ = if tkD bt n k < 4 then (if σ 54 (lnC (tkD bt n k)) = nI (lnM (tkD bt n k)) then hb_run hbSH 132 (71, [.ref 54, .long (lN (wv bt n k)), .null], [], σ) else hb_run hbSH 132 (114, [.ref 54, .long (lN (wv bt n k)), .null], [.int 1, .ref 54], σ)) else hb_run hbSH 132 (114, [.ref 54, .long (lN (wv bt n k)), .null], [.int 0, .ref 54], σ) := by
  rw [v132, e132_0, s126 hT hR, hb_cl_s]
  simp only [w_is (k := k) hT (x := 0) (w := 1718382455) (by omega) (by decide +kernel), w_is (k := k) hT (x := 1) (w := 6447460) (by omega) (by decide +kernel), w_is (k := k) hT (x := 2) (w := 1735356260) (by omega) (by decide +kernel), w_is (k := k) hT (x := 3) (w := 1937007984) (by omega) (by decide +kernel), e132_109]
  generalize wv bt n k = w
  by_cases h0 : tkD bt n k = 0
  · simp only [h0, show nI (lnM 0) = (8 : Int32) from rfl, show lnC 0 = 12 from rfl]; rfl
  · by_cases h1 : tkD bt n k = 1
    · simp only [h1, show nI (lnM 1) = (4 : Int32) from rfl, show lnC 1 = 13 from rfl]; rfl
    · by_cases h2 : tkD bt n k = 2
      · simp only [h2, show nI (lnM 2) = (4 : Int32) from rfl, show lnC 2 = 14 from rfl]; rfl
      · by_cases h3 : tkD bt n k = 3
        · simp only [h3, show nI (lnM 3) = (16 : Int32) from rfl, show lnC 3 = 15 from rfl]
          by_cases z : σ 54 15 = 16
          · simp [z]
          · simp [z]
        · simp only [h0, h1, h2, h3, show ¬ tkD bt n k < 4 by omega]; rfl
theorem s132_114x {f : Nat} {σ : hbM} (w : Int64) (s0 : Int32) (h30 : σ 54 30 = nI f) (hf : 0 < f) (hf4 : f < 4) : hb_run hbSH 132 (114, [.ref 54, .long w, .null], [.int s0, .ref 54], σ) = some (none, σ) := by
  rw [e132_114, s125x h30 hf hf4, hb_cv_s, h30, if_neg (by rw [q_0, q_le (by omega) (by omega)]; omega)]
/-- no place is left in the list -/
theorem s132_full {k : Nat} {σ : hbM} (hT : rTp bt n σ) (hR : rT bt n σ k) (h30 : σ 54 30 = 0) (hd : tkD bt n k < 4) (hc : σ 54 (lnC (tkD bt n k)) = nI (lnM (tkD bt n k))) : ∃ σ', hb_ev hbSH 132 [.ref 54] σ = some (none, σ') ∧ rG σ σ' ∧ rFa bt n 3 k σ' := by
  rw [s132_0 hT hR, if_pos hd, if_pos hc]
  have h124 := s124 hR h30 3
  rw [show nI 3 = (3 : Int32) from rfl] at h124
  have hx := fun s0 => s132_114x (f := 3) (σ := hb_up (hb_up σ 54 30 (3 : Int32)) 54 31 (nI (tkS bt n k))) (lN (wv bt n k)) s0 (by rw [um_i _ _ _ (by omega), um_s]; rfl) (by omega) (by omega)
  rw [e132_71, h124, hb_cv_s, hx, hx]
  exact ⟨_, by simp only [ite_self]; rfl, bad_g _ 3 _, by rw [um_i _ _ _ (by omega), um_s], by omega, by omega, um_s _ _ _ _⟩
/-- no line begins so -/
theorem s132_no {k : Nat} {σ : hbM} (hT : rTp bt n σ) (hR : rT bt n σ k) (h30 : σ 54 30 = 0) (hd : ¬ tkD bt n k < 4) : ∃ σ', hb_ev hbSH 132 [.ref 54] σ = some (none, σ') ∧ rG σ σ' ∧ rFa bt n 1 k σ' := by
  obtain ⟨σ1, a1, a2, a3, a4⟩ := s125f hR h30
  rw [s132_0 hT hR, if_neg hd, e132_114, a1, hb_cv_s, a3, if_neg (by decide)]
  exact ⟨σ1, rfl, a2, a3, by omega, by omega, a4⟩
end
