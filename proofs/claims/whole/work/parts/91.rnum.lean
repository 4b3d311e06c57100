/-! the reference: faults, numbers, conds -/
def rG (σ σ' : hbM) : Prop := (∀ x, x ≠ 54 → σ' x = σ x) ∧ ∀ i, i < 26 ∨ 31 < i → σ' 54 i = σ 54 i
theorem rG.rf (σ : hbM) : rG σ σ := ⟨fun _ _ => rfl, fun _ _ => rfl⟩
theorem rG.tr {a b d : hbM} (h1 : rG a b) (h2 : rG b d) : rG a d := ⟨fun x hx => (h2.1 x hx).trans (h1.1 x hx), fun i hi => (h2.2 i hi).trans (h1.2 i hi)⟩
theorem rF.g {σ σ' : hbM} (h : rF σ σ') : rG σ σ' := ⟨h.1, fun i hi => h.2 i (by omega) (by omega) (by omega) (by omega)⟩
theorem rTp.g {bt : Nat → Nat} {n : Nat} {σ σ' : hbM} (h : rTp bt n σ) (hf : rG σ σ') : rTp bt n σ' := ⟨⟨h.1.1, h.1.2.1, fun i hi => by rw [hf.1 67 (by omega)]; exact h.1.2.2 i hi⟩, by rw [hf.2 25 (by omega)]; exact h.2⟩
section
variable {bt : Nat → Nat} {n : Nat}
/-- what a reading method of the reference leaves -/
def rRd (bt : Nat → Nat) (n : Nat) (o : (Nat × Nat) ⊕ (Nat × Nat)) (σ' : hbM) (y : Int32) : Prop := match o with
  | .inl (f, k) => σ' 54 30 = nI f ∧ 0 < f ∧ f < 4 ∧ σ' 54 31 = nI (tkS bt n k)
  | .inr (k, v) => y = nI v ∧ v < 1000 ∧ σ' 54 30 = 0 ∧ rT bt n σ' k
theorem s124 {k : Nat} {σ : hbM} (hR : rT bt n σ k) (h30 : σ 54 30 = 0) (f : Nat) : hb_ev hbSH 124 [.ref 54, .int (nI f)] σ = some (none, hb_up (hb_up σ 54 30 (nI f)) 54 31 (nI (tkS bt n k))) := by
  rw [v124, e124_0, h30, if_neg (fun z => z rfl), hR.1]
theorem bad_g (σ : hbM) (f k : Nat) : rG σ (hb_up (hb_up σ 54 30 (nI f)) 54 31 (nI k)) := ⟨fun x hx => by rw [um_c _ _ _ hx, um_c _ _ _ hx], fun i hi => by rw [um_i _ _ _ (by omega), um_i _ _ _ (by omega)]⟩
/-- must, where it is so -/
theorem s125t {k : Nat} {σ : hbM} (hT : rTp bt n σ) (hR : rT bt n σ k) (h30 : σ 54 30 = 0) : ∃ σ', hb_ev hbSH 125 [.ref 54, .int 1] σ = some (none, σ') ∧ rF σ σ' ∧ rT bt n σ' (k + 1) ∧ σ' 54 30 = 0 := by
  obtain ⟨σ', a1, a2, a3⟩ := s123n hT hR
  refine ⟨σ', ?_, a2, a3, by rw [a2.2 30 (by omega) (by omega) (by omega) (by omega)]; exact h30⟩
  rw [v125, e125_0, if_pos (by decide), h30, if_neg (fun z => z rfl), a1, hb_cv_s]
theorem s125f {k : Nat} {σ : hbM} (hR : rT bt n σ k) (h30 : σ 54 30 = 0) : ∃ σ', hb_ev hbSH 125 [.ref 54, .int 0] σ = some (none, σ') ∧ rG σ σ' ∧ σ' 54 30 = nI 1 ∧ σ' 54 31 = nI (tkS bt n k) := by
  refine ⟨hb_up (hb_up σ 54 30 (nI 1)) 54 31 (nI (tkS bt n k)), ?_, bad_g _ _ _, by rw [um_i _ _ _ (by omega), um_s], um_s _ _ _ _⟩
  have := s124 hR h30 1
  rw [show nI 1 = (1 : Int32) from rfl] at this
  rw [v125, e125_0, if_neg (fun z => z rfl), this, hb_cv_s, um_i _ _ _ (by omega), um_s, if_pos (by decide)]
  rfl
theorem s125x {σ : hbM} {f : Nat} (h30 : σ 54 30 = nI f) (hf : 0 < f) (hf4 : f < 4) (x : Int32) : hb_ev hbSH 125 [.ref 54, .int x] σ = some (none, σ) := by
  have hne : ¬ σ 54 30 = 0 := by rw [h30, q_0, q_eq (by omega) (by omega)]; omega
  rw [v125, e125_0]
  by_cases z : x = 0
  · rw [if_neg (fun y => y z), v124, e124_0, if_pos hne, hb_cv_s, if_pos hne]
  · rw [if_pos z, if_pos hne]
theorem rY_3 (h256 : ∀ x, bt x < 256) (hn : n ≤ 400) {k : Nat} : (rY bt n k = 3 → tkS bt n k < n ∧ (∀ x, tkS bt n k ≤ x → x < rE bt n k → 48 ≤ bt x ∧ bt x ≤ 57) ∧ tkS bt n k < rE bt n k ∧ rE bt n k - tkS bt n k ≤ 2 ∧ tkD bt n k = 100 + vaT bt (tkS bt n k) (rE bt n k)) ∧ (rY bt n k ≠ 3 → tkD bt n k < 100) := by
  have h15 : WS.length = 15 := rfl
  unfold rY tkD rE
  by_cases h : tkS bt n k < n
  · rw [if_pos h, if_pos h, if_pos h]
    unfold cOT
    have hen := enT_sp (bt := bt) hn h
    cases hl : isL (bt (tkS bt n k)) with
    | true =>
      rw [if_pos rfl, if_pos rfl]
      refine ⟨fun z => by omega, fun _ => ?_⟩
      rcases ffW_rg (bt := bt) (j := tkS bt n k) (e := enT bt n (tkS bt n k)) WS 0 with z | z <;> omega
    | false =>
      simp only [if_neg (show ¬ false = true by decide)]
      cases hf : isF (bt (tkS bt n k)) with
      | true =>
        rw [if_pos (show true = true from rfl), if_pos (show true = true from rfl)]
        by_cases z : 2 < enT bt n (tkS bt n k) - tkS bt n k
        · rw [if_pos z, if_pos z]; exact ⟨fun y => by omega, fun _ => by omega⟩
        · rw [if_neg z, if_neg z]
          exact ⟨fun _ => ⟨h, fun x h1 h2 => of_decide_eq_true (enT_F hn h hf x h1 h2), hen.1, by omega, rfl⟩, fun y => absurd rfl y⟩
      | false =>
        simp only [if_neg (show ¬ false = true by decide)]
        by_cases z : bt (tkS bt n k) = 59
        · rw [if_pos z, if_pos z]; exact ⟨fun y => by omega, fun _ => by omega⟩
        · rw [if_neg z, if_neg z]; exact ⟨fun y => by omega, fun _ => by omega⟩
  · simp only [if_neg h]
    exact ⟨fun y => by omega, fun _ => by omega⟩
/-- numberTo -/
theorem s127 {k b : Nat} {σ : hbM} (hb1 : 1 ≤ b) (hb : b < 100) (hT : rTp bt n σ) (hR : rT bt n σ k) (h30 : σ 54 30 = 0) : ∃ σ' y, hb_ev hbSH 127 [.ref 54, .int (nI (b - 1))] σ = some (some (.int y), σ') ∧ rG σ σ' ∧ rRd bt n (pN (tkD bt n) b k) σ' y := by
  obtain ⟨⟨hn, h256, hbt⟩, h25⟩ := id hT
  obtain ⟨r1, r2, r3, r4⟩ := id hR
  obtain ⟨e1, e2⟩ := rE_b (bt := bt) hn k
  obtain ⟨y1, y2⟩ := rY_3 h256 hn (bt := bt) (k := k)
  have hy5 : rY bt n k < 5 := by unfold rY; repeat' split
                                 all_goals omega
  have e33 : (nI (rY bt n k) = (3 : Int32)) = (rY bt n k = 3) := q_eq (b := 3) (by omega) (by omega)
  rw [v127, e127_0, h30, if_pos (by decide), r1]
  unfold pN
  by_cases h3 : rY bt n k = 3
  · obtain ⟨s1, s2, s3, s4, s5⟩ := y1 h3
    have hva : vaT bt (tkS bt n k) (rE bt n k) < 100 := by
      have d0 := s2 (tkS bt n k) (by omega) s3
      unfold vaT
      split
      · omega
      · have d1 := s2 (tkS bt n k + 1) (by omega) (by omega)
        omega
    have hend : ∀ (x3 : Int32) (v : Nat), v = vaT bt (tkS bt n k) (rE bt n k) → x3 = nI (rE bt n k) → ∃ σ' y, hb_run hbSH 127 (16, [.ref 54, .int (nI (b - 1)), .int (nI v), .int x3], [], σ) = some (some (.int y), σ') ∧ rG σ σ' ∧ rRd bt n (if tkD bt n k < 100 then .inl (1, k) else if b ≤ tkD bt n k - 100 then .inl (2, k) else .inr (k + 1, tkD bt n k - 100)) σ' y := by
      intro x3 v hv hx3
      rw [s5, if_neg (show ¬ 100 + vaT bt (tkS bt n k) (rE bt n k) < 100 by omega), show 100 + vaT bt (tkS bt n k) (rE bt n k) - 100 = v by omega]
      rw [e127_16, r3, hx3, if_pos (by rw [q_le (by omega) (by omega)]; omega), r4]
      simp only [e33]
      rw [if_neg (fun z => z h3)]
      by_cases hm : b ≤ v
      · have h124 := s124 hR h30 2
        rw [show nI 2 = (2 : Int32) from rfl] at h124
        rw [if_neg (by rw [q_le (by omega) (by omega)]; omega), h124, hb_cv_s, um_i _ _ _ (by omega), um_i _ _ _ (by omega), r4]
        simp only [e33]
        rw [if_neg (fun z => z h3), e127_85, s125x (f := 2) (by rw [um_i _ _ _ (by omega), um_s]; rfl) (by omega) (by omega), hb_cv_s, if_pos hm]
        exact ⟨_, _, rfl, bad_g _ 2 _, by rw [um_i _ _ _ (by omega), um_s]; rfl, by omega, by omega, um_s _ _ _ _⟩
      · obtain ⟨σ', a1, a2, a3, a4⟩ := s125t hT hR h30
        rw [if_pos (by rw [q_le (by omega) (by omega)]; omega), if_neg (fun z => z h3), e127_85, a1, hb_cv_s, if_neg hm]
        exact ⟨σ', _, rfl, a2.g, rfl, by omega, a4, a3⟩
    have d0 := s2 (tkS bt n k) (by omega) s3
    have s0 : (((10 : Int32) * 0) + nI (bt (tkS bt n k))) - 48 = nI (bt (tkS bt n k) - 48) := by rw [show (10 : Int32) * 0 = nI 0 from rfl, q_add, q_48, q_sub (by omega), Nat.zero_add]
    rw [e127_16, r3, if_neg (by rw [q_le (by omega) (by omega)]; omega), r4]
    simp only [e33]
    rw [if_neg (fun z => z h3), q_inT (by omega) (by omega), hb_g_t, hb_g_nil, q_cl (by omega), hbt _ s1, s0, nI_1]
    by_cases hl1 : rE bt n k = tkS bt n k + 1
    · exact hend _ _ (by unfold vaT; rw [if_pos hl1]) (by rw [hl1])
    · have d1 := s2 (tkS bt n k + 1) (by omega) (by omega)
      have s1' : (((10 : Int32) * nI (bt (tkS bt n k) - 48)) + nI (bt (tkS bt n k + 1))) - 48 = nI (10 * (bt (tkS bt n k) - 48) + (bt (tkS bt n k + 1) - 48)) := by rw [q_10, q_mul, q_add, q_48, q_sub (by omega)]; congr 1; omega
      rw [e127_16, r3, if_neg (by rw [q_le (by omega) (by omega)]; omega), r4]
      simp only [e33]
      rw [if_neg (fun z => z h3), q_inT (by omega) (by omega), hb_g_t, hb_g_nil, q_cl (by omega), hbt _ (by omega), s1', nI_1]
      exact hend _ _ (by unfold vaT; rw [if_neg hl1]) (by congr 1; omega)
  · have hd := y2 h3
    obtain ⟨σ', a1, a2, a3, a4⟩ := s125f hR h30
    have h85 : ∀ x3 : Int32, hb_run hbSH 127 (85, [.ref 54, .int (nI (b - 1)), .int 0, .int x3], [.int 0, .ref 54], σ) = some (some (.int 0), σ') := fun x3 => by rw [e127_85, a1, hb_cv_s]
    rw [if_pos hd, e127_16, r3, r4]
    simp only [e33]
    refine ⟨σ', 0, ?_, a2, a3, by omega, by omega, a4⟩
    by_cases z : nI (rE bt n k) ≤ nI (tkS bt n k)
    · rw [if_pos z, if_pos h3, if_pos h3, h85]
    · rw [if_neg z, if_pos h3, if_pos h3, if_pos h3, h85]
theorem s127x {σ : hbM} {f : Nat} (h30 : σ 54 30 = nI f) (hf : 0 < f) (hf4 : f < 4) (x : Int32) : hb_ev hbSH 127 [.ref 54, .int x] σ = some (some (.int 0), σ) := by
  rw [v127, e127_0, h30, if_neg (by rw [q_0, q_le (by omega) (by omega)]; omega)]
def rW (d : Nat) : Option Nat := if 7 ≤ d ∧ d ≤ 14 then some (d - 7) else none
theorem s128 {k : Nat} {σ : hbM} (hT : rTp bt n σ) (hR : rT bt n σ k) : hb_ev hbSH 128 [.ref 54] σ = some (some (.int (hbo (rW (tkD bt n k)))), σ) := by
  obtain ⟨⟨hn, h256, hbt⟩, h25⟩ := id hT
  rw [v128, e128_0, s126 hT hR, hb_cl_s]
  have c : ∀ x, x < 15 → ∀ w : Int64, w = lN (pkW (WS.getD x [])) → ((lg_cmp (lN (wv bt n k)) w = 0) = (tkD bt n k = x)) := fun x hx w hw => by
    rw [hw]; exact propext ((lg_cmp_eq _ _).trans (wv_iff hn h256 hx))
  simp only [c 7 (by omega) 1869636974 (by decide +kernel), c 8 (by omega) 1936225652 (by decide +kernel), c 9 (by omega) 418263299685 (by decide +kernel), c 10 (by omega) 422608400247 (by decide +kernel), c 11 (by omega) 2002872692 (by decide +kernel), c 12 (by omega) 26982 (by decide +kernel), c 13 (by omega) 26479 (by decide +kernel), c 14 (by omega) 6647396 (by decide +kernel)]
  unfold rW
  generalize tkD bt n k = d
  by_cases h7 : d = 7
  · subst h7; rfl
  · rw [if_pos h7]
    by_cases h8 : d = 8
    · subst h8; rfl
    · rw [if_pos h8]
      by_cases h9 : d = 9
      · subst h9; rfl
      · rw [if_pos h9]
        by_cases h10 : d = 10
        · subst h10; rfl
        · rw [if_pos h10]
          by_cases h11 : d = 11
          · subst h11; rfl
          · rw [if_pos h11]
            by_cases h12 : d = 12
            · subst h12; rfl
            · rw [if_pos h12]
              by_cases h13 : d = 13
              · subst h13; rfl
              · rw [if_pos h13]
                by_cases h14 : d = 14
                · subst h14; rfl
                · rw [if_pos h14, if_neg (by omega)]; rfl
end
