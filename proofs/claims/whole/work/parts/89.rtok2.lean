/-! tokens: the reference's next token, its word -/
section
variable {bt : Nat → Nat} {n : Nat}
/-- next, from a cursor that stands ahead of token k -/
theorem s123 {k : Nat} : ∀ (f i : Nat) (σ : hbM), n ≤ i + f → i ≤ n → rTp bt n σ → σ 54 26 = nI i → skp bt n i = tkS bt n k → ∃ σ', hb_run hbSH 123 (0, [.ref 54, .null], [], σ) = some (none, σ') ∧ rF σ σ' ∧ rT bt n σ' k := by
  have stop : ∀ (i : Nat) (σ : hbM), i ≤ n → rTp bt n σ → σ 54 26 = nI i → skp bt n i = tkS bt n k → ¬ (i < n ∧ isB (bt i) = true) → ∃ σ', hb_run hbSH 123 (0, [.ref 54, .null], [], σ) = some (none, σ') ∧ rF σ σ' ∧ rT bt n σ' k := by
    intro i σ hi hT h26 hs hnb
    have hn := hT.1.1
    have hsi : tkS bt n k = i := by rw [← hs]; exact skp_n hnb
    have h120 := s120 hT (i := i) (by omega)
    have hb := hT.1.2.1 i
    have fr0 := (rF.rf σ).up (i := 28) (nI i) (by omega)
    have hT1 := hT.fr fr0
    have h120' := s120 hT1 (i := i) (by omega)
    have h261 : hb_up σ 54 28 (nI i) 54 26 = nI i := by rw [um_i _ _ _ (by omega)]; exact h26
    have n32 : ¬ (if i < n then nI (bt i) else hbNO) = (32 : Int32) := by
      by_cases z : i < n
      · rw [if_pos z, show (32 : Int32) = nI 32 from rfl, q_eq (by omega) (by omega)]
        exact fun y => hnb ⟨z, decide_eq_true (Or.inl y)⟩
      · rw [if_neg z]; decide
    have n10 : ¬ (if i < n then nI (bt i) else hbNO) = (10 : Int32) := by
      by_cases z : i < n
      · rw [if_pos z, show (10 : Int32) = nI 10 from rfl, q_eq (by omega) (by omega)]
        exact fun y => hnb ⟨z, decide_eq_true (Or.inr y)⟩
      · rw [if_neg z]; decide
    rw [e123_0, h26, h120, hb_ci_s, if_neg n32, h26, h120, hb_ci_s, if_pos n10, h26, h120', hb_ci_s]
    by_cases hin : i < n
    · rw [if_pos hin, if_pos (nno (by omega)), s121 _ hb, hb_ci_s]
      cases hl : isL (bt i) with
      | true =>
        obtain ⟨σ', a1, a2, a3, a4, a5, a6⟩ := s123_77 (bt := bt) (nI (bt i)) (n - i) i (hb_up σ 54 28 (nI i)) (by omega) hi hT1 h261
        have hq1 : ∀ x, (fun x => decide (x < n) && isL (bt x)) x = true → x < n := fun x h => by simp only [Bool.and_eq_true, decide_eq_true_eq] at h; exact h.1
        have hqi : (fun x => decide (x < n) && isL (bt x)) i = true := by show (decide (i < n) && isL (bt i)) = true; rw [hl, decide_eq_true hin]; rfl
        have he : wh (fun x => decide (x < n) && isL (bt x)) 401 i = rE bt n k := by
          unfold rE enT
          rw [hsi, if_pos hin, if_pos hl]; exact wh_t hn hq1 hqi
        rw [hbb_t, if_neg (by decide)]
        refine ⟨σ', a1, fr0.tr a2, by rw [a3, um_s, hsi], by rw [a4, he], by rw [a5, he], ?_⟩
        rw [a6]; unfold rY; rw [hsi, if_pos hin, if_pos hl]
      | false =>
        rw [hbb_f, if_pos rfl, s122 _ hb, hb_ci_s]
        cases hf : isF (bt i) with
        | true =>
          obtain ⟨σ', a1, a2, a3, a4, a5, a6⟩ := s123_119 (bt := bt) (nI (bt i)) (j := i) (n - i) i (hb_up σ 54 28 (nI i)) (by omega) (by omega) hi hT1 h261 (um_s _ _ _ _)
          have hq1 : ∀ x, (fun x => decide (x < n) && isF (bt x)) x = true → x < n := fun x h => by simp only [Bool.and_eq_true, decide_eq_true_eq] at h; exact h.1
          have hqi : (fun x => decide (x < n) && isF (bt x)) i = true := by show (decide (i < n) && isF (bt i)) = true; rw [hf, decide_eq_true hin]; rfl
          have he0 : wh (fun x => decide (x < n) && isF (bt x)) 401 i = enT bt n i := by
            unfold enT
            rw [hl, if_neg (show ¬ false = true by decide), if_pos hf]; exact wh_t hn hq1 hqi
          have he : wh (fun x => decide (x < n) && isF (bt x)) 401 i = rE bt n k := by
            unfold rE
            rw [hsi, if_pos hin, he0]
          rw [hbb_t, if_neg (by decide)]
          refine ⟨σ', a1, fr0.tr a2, by rw [a3, um_s, hsi], by rw [a4, he], by rw [a5, he], ?_⟩
          rw [a6, he0]; unfold rY; rw [hsi, if_pos hin, hl, if_neg (show ¬ false = true by decide), if_pos hf]
        | false =>
          have he : rE bt n k = i + 1 := by
            unfold rE enT
            rw [hsi, if_pos hin, hl, hf, if_neg (show ¬ false = true by decide), if_neg (show ¬ false = true by decide)]
          have hy : rY bt n k = if bt i = 59 then 4 else 0 := by
            unfold rY
            rw [hsi, if_pos hin, hl, hf, if_neg (show ¬ false = true by decide), if_neg (show ¬ false = true by decide)]
          have e59 : (nI (bt i) = (59 : Int32)) = (bt i = 59) := q_eq (b := 59) (by omega) (by omega)
          rw [hbb_f, if_pos rfl, h261, nI_1]
          simp only [e59]
          have fin : ∀ v : Nat, v = rY bt n k → rT bt n (hb_up (hb_up (hb_up (hb_up σ 54 28 (nI i)) 54 26 (nI (i + 1))) 54 27 (nI v)) 54 29 (nI (i + 1))) k := fun v hv => ⟨by rw [um_i _ _ _ (by omega), um_i _ _ _ (by omega), um_i _ _ _ (by omega), um_s, hsi], by rw [um_i _ _ _ (by omega), um_i _ _ _ (by omega), um_s, he], by rw [um_s, he], by rw [um_i _ _ _ (by omega), um_s, hv]⟩
          by_cases z : bt i = 59
          · rw [if_neg (fun y => y z)]
            exact ⟨_, rfl, ((fr0.up _ (by omega)).up _ (by omega)).up _ (by omega), fin 4 (by rw [hy, if_pos z])⟩
          · rw [if_pos z]
            exact ⟨_, rfl, ((fr0.up _ (by omega)).up _ (by omega)).up _ (by omega), fin 0 (by rw [hy, if_neg z])⟩
    · have hnn : i = n := by omega
      have he : rE bt n k = n := by unfold rE; rw [hsi, if_neg hin]
      have hy : rY bt n k = 1 := by unfold rY; rw [hsi, if_neg hin]
      rw [if_neg hin, if_neg (fun z => z rfl), h261]
      exact ⟨_, rfl, (fr0.up _ (by omega)).up _ (by omega), by rw [um_i _ _ _ (by omega), um_i _ _ _ (by omega), um_s, hsi], by rw [um_i _ _ _ (by omega), um_i _ _ _ (by omega), h261, he, hnn], by rw [um_s, he, hnn], by rw [um_i _ _ _ (by omega), um_s, hy]; rfl⟩
  intro f
  induction f with
  | zero => intro i σ hf hi hT h26 hs; exact stop i σ hi hT h26 hs (fun z => by omega)
  | succ f ih =>
    intro i σ hf hi hT h26 hs
    by_cases hb : i < n ∧ isB (bt i) = true
    · have hn := hT.1.1
      have hbi := hT.1.2.1 i
      have h120 := s120 hT (i := i) (by omega)
      rw [if_pos hb.1] at h120
      have fr := (rF.rf σ).up (i := 26) (nI (i + 1)) (by omega)
      obtain ⟨σ', a1, a2, a3⟩ := ih (i + 1) (hb_up σ 54 26 (nI (i + 1))) (by omega) (by omega) (hT.fr fr) (um_s _ _ _ _) (by rw [← hs]; exact (skp_b hn hb.1 hb.2).symm)
      refine ⟨σ', ?_, fr.tr a2, a3⟩
      have e32 : (nI (bt i) = (32 : Int32)) = (bt i = 32) := q_eq (b := 32) (by omega) (by omega)
      have e10 : (nI (bt i) = (10 : Int32)) = (bt i = 10) := q_eq (b := 10) (by omega) (by omega)
      rw [e123_0, h26, h120, hb_ci_s, h26, nI_1, h120, hb_ci_s]
      simp only [e32, e10]
      rcases of_decide_eq_true hb.2 with z | z
      · rw [if_pos z]; exact a1
      · rw [if_neg (by omega), if_neg (fun y => y z), h26, nI_1]; exact a1
    · exact stop i σ hi hT h26 hs hb
theorem s123n {k : Nat} {σ : hbM} (hT : rTp bt n σ) (hR : rT bt n σ k) : ∃ σ', hb_ev hbSH 123 [.ref 54] σ = some (none, σ') ∧ rF σ σ' ∧ rT bt n σ' (k + 1) := by
  have hn := hT.1.1
  have hle := tkS_le (bt := bt) hn k
  have hr : rE bt n k ≤ n ∧ skp bt n (rE bt n k) = tkS bt n (k + 1) := by
    unfold rE
    show _ ∧ _ = (if tkS bt n k < n then skp bt n (enT bt n (tkS bt n k)) else n)
    by_cases h : tkS bt n k < n
    · rw [if_pos h, if_pos h]; exact ⟨(enT_sp hn h).2, rfl⟩
    · rw [if_neg h, if_neg h]; exact ⟨Nat.le_refl _, skp_n (fun z => by omega)⟩
  rw [v123]
  exact s123 (n - rE bt n k) (rE bt n k) σ (by omega) hr.1 hT hR.2.1 hr.2
end
