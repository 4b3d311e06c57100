/-! book: the class's call -/
/-- D is kept: counts and contents -/
def hD0 (σ : hbM) (D : hbD) : Prop := σ 0 8 = nI D.1.1 ∧ σ 1 2 = nI D.2.1.1 ∧ σ 4 2 = nI D.2.2.1.1 ∧ σ 31 4 = nI D.2.2.2.1 ∧ kD σ D
def bFr (σ σ' : hbM) : Prop := (∀ x, 13 ≤ x → x ≠ 31 → x ≠ 32 → x ≠ 33 → x ≠ 34 → x ≠ 39 → x ≠ 41 → x ≠ 42 → x ≠ 43 → σ' x = σ x) ∧ (∀ i, i ≠ 8 → i ≠ 9 → σ' 0 i = σ 0 i) ∧ (∀ i, i ≠ 4 → i ≠ 5 → σ' 31 i = σ 31 i) ∧ σ' 39 3 = 0
section
variable {s c : Nat → Nat} {m : Nat}
theorem s14_loop : ∀ (f i k : Nat) (D : hbD) (σ : hbM), m ≤ k + f → i ≤ k → tkI s c m σ → cAt c m k σ → nD σ D → kD σ D → wD D →
    ∃ σ', dFr σ σ' ∧ match pA c (f + 1) k D with
      | .inl (fn, kf) => hb_run hbSH 14 (50, [.ref 43, .int 1, .int (nI i)], [], σ) = some (some (.int 0), hb_up σ' 39 3 0) ∧ σ' 43 3 = nI fn ∧ σ' 43 4 = nI (s kf) ∧ kD σ' D
      | .inr D' => hb_run hbSH 14 (50, [.ref 43, .int 1, .int (nI i)], [], σ) = hb_cv (hb_ev hbSH 74 [.ref 0] σ') (fun σ89 => some (some (.int 1), hb_up (hb_up σ89 31 4 (σ89 31 5)) 39 3 0)) ∧ nD σ' D' ∧ kD σ' D' ∧ wD D' := by
  have hend : ∀ (i k : Nat) (σ : hbM), tkI s c m σ → cAt c m k σ → c k = 21 → hb_run hbSH 14 (50, [.ref 43, .int 1, .int (nI i)], [], σ) = hb_cv (hb_ev hbSH 74 [.ref 0] σ) (fun σ89 => some (some (.int 1), hb_up (hb_up σ89 31 4 (σ89 31 5)) 39 3 0)) := fun i k σ hT hA h => by
    rw [e14_50]
    by_cases z : (400 : Int32) ≤ nI i
    · rw [if_pos z, if_neg (by decide)]; rfl
    · rw [if_neg z, if_neg (by decide), hA.2.2, h, if_pos (by decide), if_neg (by decide)]; rfl
  intro f
  induction f with
  | zero =>
    intro i k D σ hm hi hT hA hN hK hw
    have hkm : k = m := by have := hA.1; omega
    have h21 : c k = 21 := by rw [hkm]; exact hT.2.1
    refine ⟨σ, dFr.rf σ, ?_⟩
    simp only [pA, if_pos h21]
    exact ⟨hend i k σ hT hA h21, hN, hK, hw⟩
  | succ f ih =>
    intro i k D σ hm hi hT hA hN hK hw
    by_cases h21 : c k = 21
    · refine ⟨σ, dFr.rf σ, ?_⟩
      rw [show pA c (f + 1 + 1) k D = .inr D by simp only [pA, if_pos h21]]
      exact ⟨hend i k σ hT hA h21, hN, hK, hw⟩
    · have hkm : k < m := by
        by_cases z : k = m
        · rw [z] at h21; exact absurd hT.2.1 h21
        · have := hA.1; omega
      have hm4 := hT.1
      have hck := hT.2.2.2.1 k
      obtain ⟨σ1, b, a1, a2, a3⟩ := s15 hw hT hA h21 hN hK
      have hrun : hb_run hbSH 14 (50, [.ref 43, .int 1, .int (nI i)], [], σ) = hb_run hbSH 14 (50, [.ref 43, .int (hbb b), .int (nI (i + 1))], [], σ1) := by
        rw [e14_50, if_neg (by rw [q_400, q_le (by omega) (by omega)]; omega), if_neg (by decide), hA.2.2, if_neg (fun z => h21 (by rw [q_21, q_eq (by omega) (by omega)] at z; exact z)), a1, hb_ci_s, nI_1]
      have hpa : pA c (f + 1 + 1) k D = match pL c k D with
          | .inl e => .inl e
          | .inr (k', D') => pA c (f + 1) k' D' := by
        show (if c k = 21 then _ else _) = _
        rw [if_neg h21]
        rfl
      rw [hpa]
      cases hp : pL c k D with
      | inl e =>
        obtain ⟨fn, kf⟩ := e
        rw [hp] at a3
        obtain ⟨rfl, x2, x3, x4⟩ := a3
        refine ⟨σ1, a2, ?_, x2, x3, x4⟩
        rw [hrun, hbb_f, e14_50]
        by_cases z : (400 : Int32) ≤ nI (i + 1)
        · rw [if_pos z, if_pos rfl]; rfl
        · rw [if_neg z, if_pos rfl]; rfl
      | inr p =>
        obtain ⟨k', D'⟩ := p
        rw [hp] at a3
        obtain ⟨rfl, x2, x3, x4⟩ := a3
        obtain ⟨w1, w2, w3⟩ := pL_ok hw hp
        have hT1 : tkI s c m σ1 := by
          obtain ⟨t1, t2, t3, t4, t5, t6⟩ := hT
          exact ⟨t1, t2, t3, t4, t5, by rw [a2.1 41 (by omega) (by omega) (by omega) (by omega) (by omega) (by omega), a2.1 42 (by omega) (by omega) (by omega) (by omega) (by omega) (by omega)]; exact t6⟩
        obtain ⟨σ', y1, y2⟩ := ih (i + 1) k' D' σ1 (by omega) (by omega) hT1 x2 x3 x4 w1
        refine ⟨σ', a2.tr y1, ?_⟩
        dsimp only
        rw [hrun, hbb_t]
        cases hq : pA c (f + 1) k' D' with
        | inl e =>
          obtain ⟨fn, kf⟩ := e
          rw [hq] at y2
          obtain ⟨z1, z2, z3, z4⟩ := y2
          exact ⟨z1, z2, z3, kD_pre w3 z4⟩
        | inr D'' =>
          rw [hq] at y2
          exact y2
end
theorem kD_o {σ σ' : hbM} {D : hbD} (h : ∀ x, x = 2 ∨ x = 3 ∨ x = 5 ∨ x = 6 ∨ x = 7 ∨ x = 8 ∨ x = 9 ∨ x = 32 ∨ x = 33 ∨ x = 34 → σ' x = σ x) (hK : kD σ D) : kD σ' D := by
  obtain ⟨h1, h2, h3, h4⟩ := hK
  refine ⟨?_, ?_, ?_, ?_⟩
  · unfold kF; rw [h 7 (by omega), h 8 (by omega), h 9 (by omega)]; exact h1
  · unfold kL; rw [h (1 + 2) (by omega), h (1 + 1) (by omega)]; exact h2
  · unfold kL; rw [h (4 + 2) (by omega), h (4 + 1) (by omega)]; exact h3
  · unfold kS; rw [h 32 (by omega), h 33 (by omega), h 34 (by omega)]; exact h4
/-- book, by the class -/
theorem s83 {bt : Nat → Nat} {n : Nat} {D : hbD} {σ : hbM} (hw : wD D) (hT : tpe σ 40 bt n) (h3 : σ 39 3 = nI n) (hD : hD0 σ D) :
    ∃ σ' m, m ≤ 400 ∧ tkS bt n m = n ∧ (∀ k, k < m → tkS bt n k < n) ∧ match pA (tkD bt n) (m + 1) 0 D with
      | .inl (fn, kf) => hb_ev hbSH 83 [.ref 13] σ = some (some (.int (-1000100 - nI (tkS bt n kf))), hb_up σ' 13 10 (nI fn)) ∧ bFr σ σ' ∧ hD0 σ' D ∧ σ' 10 = σ 10 ∧ σ' 11 = σ 11 ∧ σ' 12 = σ 12
      | .inr D' => hb_ev hbSH 83 [.ref 13] σ = some (some (.int (nI D'.2.2.2.1)), σ') ∧ bFr σ σ' ∧ hD0 σ' D' ∧ wD D' ∧ ∀ x, x < 1024 → σ' 10 x = nI (wTick D'.1 x) ∧ σ' 11 x = hbb (wAny D'.2.1 x D'.2.1.1) ∧ σ' 12 x = hbb (wGood D'.2.1 D'.2.2.1 x) := by
  obtain ⟨hn, h256, hb⟩ := id hT
  obtain ⟨d1, d2, d3, d4, d5⟩ := hD
  obtain ⟨σ1, m, a1, a2, a3, a4, a5, a6⟩ := s44 hT h3
  generalize hσ2 : hb_up (hb_up (hb_up (hb_up (hb_up (hb_up σ1 0 9 (nI D.1.1)) 1 3 (nI D.2.1.1)) 4 3 (nI D.2.2.1.1)) 31 5 (nI D.2.2.2.1)) 43 5 0) 43 6 (nI (tkD bt n 0)) = σ2
  have o2 : ∀ x, x ≠ 0 → x ≠ 1 → x ≠ 4 → x ≠ 31 → x ≠ 43 → σ2 x = σ1 x := fun x p q r t u => by rw [← hσ2, um_c _ _ _ u, um_c _ _ _ u, um_c _ _ _ t, um_c _ _ _ r, um_c _ _ _ q, um_c _ _ _ p]
  have h0 : ∀ i, i ≠ 9 → σ2 0 i = σ 0 i := fun i hi => by rw [← hσ2, um_c _ _ _ (by omega), um_c _ _ _ (by omega), um_c _ _ _ (by omega), um_c _ _ _ (by omega), um_c _ _ _ (by omega), um_i _ _ _ hi, a2 0 (by omega) (by omega)]
  have h31 : ∀ i, i ≠ 5 → σ2 31 i = σ 31 i := fun i hi => by rw [← hσ2, um_c _ _ _ (by omega), um_c _ _ _ (by omega), um_i _ _ _ hi, um_c _ _ _ (by omega), um_c _ _ _ (by omega), um_c _ _ _ (by omega), a2 31 (by omega) (by omega)]
  have h12 : ∀ i, i ≠ 3 → σ2 1 i = σ 1 i := fun i hi => by rw [← hσ2, um_c _ _ _ (by omega), um_c _ _ _ (by omega), um_c _ _ _ (by omega), um_c _ _ _ (by omega), um_i _ _ _ hi, um_c _ _ _ (by omega), a2 1 (by omega) (by omega)]
  have h42 : ∀ i, i ≠ 3 → σ2 4 i = σ 4 i := fun i hi => by rw [← hσ2, um_c _ _ _ (by omega), um_c _ _ _ (by omega), um_c _ _ _ (by omega), um_i _ _ _ hi, um_c _ _ _ (by omega), um_c _ _ _ (by omega), a2 4 (by omega) (by omega)]
  have hN2 : nD σ2 D := ⟨by rw [← hσ2, um_c _ _ _ (by omega), um_c _ _ _ (by omega), um_c _ _ _ (by omega), um_c _ _ _ (by omega), um_c _ _ _ (by omega), um_s], by rw [← hσ2, um_c _ _ _ (by omega), um_c _ _ _ (by omega), um_c _ _ _ (by omega), um_c _ _ _ (by omega), um_s], by rw [← hσ2, um_c _ _ _ (by omega), um_c _ _ _ (by omega), um_c _ _ _ (by omega), um_s], by rw [← hσ2, um_c _ _ _ (by omega), um_c _ _ _ (by omega), um_s]⟩
  have hK2 : kD σ2 D := kD_o (fun x hx => by rw [o2 x (by omega) (by omega) (by omega) (by omega) (by omega), a2 x (by omega) (by omega)]) d5
  have hcl : ∀ k, tkD bt n k < 3000 := fun k => by unfold tkD; split; exact cOT_lt h256 _ _; omega
  have hTk : tkI (tkS bt n) (tkD bt n) m σ2 := by
    refine ⟨a3, ?_, fun k hk => ?_, hcl, fun k => Nat.le_trans (tkS_le hn k) hn, fun k hk => by rw [o2 41 (by omega) (by omega) (by omega) (by omega) (by omega), o2 42 (by omega) (by omega) (by omega) (by omega) (by omega)]; exact a6 k hk⟩
    · unfold tkD; rw [a4, if_neg (by omega)]
    · unfold tkD
      rw [if_pos (a5 k hk)]
      unfold cOT
      have h15 : WS.length = 15 := rfl
      split
      · rcases ffW_rg (bt := bt) (j := tkS bt n k) (e := enT bt n (tkS bt n k)) WS 0 with z | z <;> omega
      · split
        · split <;> omega
        · split <;> omega
  have hA2 : cAt (tkD bt n) m 0 σ2 := ⟨by omega, by rw [← hσ2, um_i _ _ _ (by omega), um_s]; rfl, by rw [← hσ2, um_s]⟩
  obtain ⟨σ3, b1, b2⟩ := s14_loop m 0 0 D σ2 (by omega) (by omega) hTk hA2 hN2 hK2 hw
  have h14 : ∀ r, hb_run hbSH 14 (50, [.ref 43, .int 1, .int (nI 0)], [], σ2) = r → hb_ev hbSH 14 [.ref 43] σ = r := fun r hr => by
    rw [v14, e14_0, a1, hb_cv_s, v73, e73_0, hb_cv_s, show hb_in 0 401 = true from rfl, hb_g_t, hb_g_nil, ← hr]
    rw [um_c _ _ _ (show (42 : Nat) ≠ 4 by omega), um_c _ _ _ (show (42 : Nat) ≠ 1 by omega), um_c _ _ _ (show (42 : Nat) ≠ 0 by omega), um_c _ _ _ (show (31 : Nat) ≠ 4 by omega), um_c _ _ _ (show (31 : Nat) ≠ 1 by omega), um_c _ _ _ (show (31 : Nat) ≠ 0 by omega), a2 0 (by omega) (by omega), a2 1 (by omega) (by omega), a2 4 (by omega) (by omega), a2 31 (by omega) (by omega), d1, d2, d3, d4, show Int32.toNatClampNeg 0 = 0 from rfl, (a6 0 (by omega)).2, hσ2]
    rfl
  show ∃ σ' m, _
  cases hp : pA (tkD bt n) (m + 1) 0 D with
  | inl e =>
    obtain ⟨fn, kf⟩ := e
    rw [hp] at b2
    obtain ⟨c1, c2, c3, c4⟩ := b2
    refine ⟨hb_up σ3 39 3 0, m, a3, a4, a5, ?_⟩
    rw [hp]
    refine ⟨?_, ⟨fun x w1 w2 w3 w4 w5 w6 w7 w8 w9 => ?_, fun i w1 w2 => ?_, fun i w1 w2 => ?_, um_s _ _ _ _⟩, ⟨?_, ?_, ?_, ?_, ?_⟩, ?_, ?_, ?_⟩
    · rw [v83, e83_0, h14 _ c1, hb_ci_s, if_pos rfl, um_c _ _ _ (by omega), c2, c3]
    · rw [um_c _ _ _ w6, b1.1 x (by omega) w2 w3 w4 w5 w9, o2 x (by omega) (by omega) (by omega) w2 w9, a2 x w7 w8]
    · rw [um_c _ _ _ (by omega), b1.2.1 i w2, h0 i w2]
    · rw [um_c _ _ _ (by omega), b1.2.2.2.2 i w2, h31 i w2]
    · rw [um_c _ _ _ (by omega), b1.2.1 8 (by omega), h0 8 (by omega)]; exact d1
    · rw [um_c _ _ _ (by omega), b1.2.2.1 2 (by omega), h12 2 (by omega)]; exact d2
    · rw [um_c _ _ _ (by omega), b1.2.2.2.1 2 (by omega), h42 2 (by omega)]; exact d3
    · rw [um_c _ _ _ (by omega), b1.2.2.2.2 4 (by omega), h31 4 (by omega)]; exact d4
    · exact kD_o (fun x hx => um_c _ _ _ (by omega)) c4
    · rw [um_c _ _ _ (by omega), b1.1 10 (by omega) (by omega) (by omega) (by omega) (by omega) (by omega), o2 10 (by omega) (by omega) (by omega) (by omega) (by omega), a2 10 (by omega) (by omega)]
    · rw [um_c _ _ _ (by omega), b1.1 11 (by omega) (by omega) (by omega) (by omega) (by omega) (by omega), o2 11 (by omega) (by omega) (by omega) (by omega) (by omega), a2 11 (by omega) (by omega)]
    · rw [um_c _ _ _ (by omega), b1.1 12 (by omega) (by omega) (by omega) (by omega) (by omega) (by omega), o2 12 (by omega) (by omega) (by omega) (by omega) (by omega), a2 12 (by omega) (by omega)]
  | inr D' =>
    rw [hp] at b2
    obtain ⟨c1, ⟨n1, n2, n3, n4⟩, c3, c4⟩ := b2
    generalize hσ4 : hb_up (hb_up (hb_up σ3 0 8 (nI D'.1.1)) 1 2 (nI D'.2.1.1)) 4 2 (nI D'.2.2.1.1) = σ4
    have o4 : ∀ x, x ≠ 0 → x ≠ 1 → x ≠ 4 → σ4 x = σ3 x := fun x p q r => by rw [← hσ4, um_c _ _ _ r, um_c _ _ _ q, um_c _ _ _ p]
    have hK4 : kD σ4 D' := kD_o (fun x hx => o4 x (by omega) (by omega) (by omega)) c3
    have cf : cF σ4 D'.1 := ⟨by rw [← hσ4, um_c _ _ _ (by omega), um_c _ _ _ (by omega), um_s], hK4.1⟩
    have cb : cL σ4 D'.2.1 1 := ⟨by rw [← hσ4, um_c _ _ _ (by omega), um_s], hK4.2.1⟩
    have cg : cL σ4 D'.2.2.1 4 := ⟨by rw [← hσ4, um_s], hK4.2.2.1⟩
    obtain ⟨σ5, e1, e2, e3⟩ := s75 hbSH1 c4.1 c4.2.1 c4.2.2.1 cf cb cg
    have h74 : hb_ev hbSH 74 [.ref 0] σ3 = some (none, σ5) := by
      rw [v74, e74_0, n1, n2, n3, hσ4, show hb_ev hbSH 75 [.ref 0] σ4 = some (none, σ5) from e1, hb_cv_s]
    have h315 : σ5 31 5 = nI D'.2.2.2.1 := by rw [e2 31 (by omega) (by omega) (by omega), o4 31 (by omega) (by omega) (by omega)]; exact n4
    refine ⟨hb_up (hb_up σ5 31 4 (nI D'.2.2.2.1)) 39 3 0, m, a3, a4, a5, ?_⟩
    rw [hp]
    refine ⟨?_, ⟨fun x w1 w2 w3 w4 w5 w6 w7 w8 w9 => ?_, fun i w1 w2 => ?_, fun i w1 w2 => ?_, um_s _ _ _ _⟩, ⟨?_, ?_, ?_, ?_, ?_⟩, c4, fun x hx => ?_⟩
    · have := h14 _ c1
      rw [h74, hb_cv_s, h315] at this
      rw [v83, e83_0, this, hb_ci_s, if_neg (by decide), um_c _ _ _ (by omega), um_s]
    · rw [um_c _ _ _ w6, um_c _ _ _ w2, e2 x (by omega) (by omega) (by omega), o4 x (by omega) (by omega) (by omega), b1.1 x (by omega) w2 w3 w4 w5 w9, o2 x (by omega) (by omega) (by omega) w2 w9, a2 x w7 w8]
    · rw [um_c _ _ _ (by omega), um_c _ _ _ (by omega), e2 0 (by omega) (by omega) (by omega), ← hσ4, um_c _ _ _ (by omega), um_c _ _ _ (by omega), um_i _ _ _ w1, b1.2.1 i w2, h0 i w2]
    · rw [um_c _ _ _ (by omega), um_i _ _ _ w1, e2 31 (by omega) (by omega) (by omega), o4 31 (by omega) (by omega) (by omega), b1.2.2.2.2 i w2, h31 i w2]
    · rw [um_c _ _ _ (by omega), um_c _ _ _ (by omega), e2 0 (by omega) (by omega) (by omega)]; exact cf.1
    · rw [um_c _ _ _ (by omega), um_c _ _ _ (by omega), e2 1 (by omega) (by omega) (by omega)]; exact cb.1
    · rw [um_c _ _ _ (by omega), um_c _ _ _ (by omega), e2 4 (by omega) (by omega) (by omega)]; exact cg.1
    · rw [um_c _ _ _ (by omega), um_s]
    · exact kD_o (fun x hx => by rw [um_c _ _ _ (by omega), um_c _ _ _ (by omega), e2 x (by omega) (by omega) (by omega)]) hK4
    · rw [um_c _ _ _ (by omega), um_c _ _ _ (by omega), um_c _ _ _ (by omega), um_c _ _ _ (by omega), um_c _ _ _ (by omega), um_c _ _ _ (by omega)]
      exact e3 x hx
