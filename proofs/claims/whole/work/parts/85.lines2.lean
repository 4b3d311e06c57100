/-! book: the class's steps, all lines -/
section
variable {s c : Nat → Nat} {m k : Nat} {σ : hbM}
theorem s22 (hT : tkI s c m σ) (hA : cAt c m k σ) : hb_ev hbSH 22 [.ref 43] σ = some (some (.int (hbo (aOf (c k)))), σ) := by
  have hc := hT.2.2.2.1 k
  rw [v22, e22_0, hA.2.2]
  have e : ∀ d : Nat, d < 100 → ((nI (c k) = nI d) = (c k = d)) := fun d hd => q_eq (by omega) (by omega)
  rw [q_7, q_8, q_9, q_10, q_11, q_12, q_13, q_14]
  simp only [e 7 (by omega), e 8 (by omega), e 9 (by omega), e 10 (by omega), e 11 (by omega), e 12 (by omega), e 13 (by omega), e 14 (by omega)]
  unfold aOf
  by_cases h7 : c k = 7
  · rw [if_pos h7, if_pos h7]; rfl
  · rw [if_neg h7, if_neg h7]
    by_cases h8 : c k = 8
    · rw [if_pos h8, if_pos h8]; rfl
    · rw [if_neg h8, if_neg h8]
      by_cases h9 : c k = 9
      · rw [if_pos h9, if_neg (by omega), if_neg (by omega), if_neg (by omega), if_neg (by omega)]; rfl
      · rw [if_neg h9]
        by_cases h10 : c k = 10
        · rw [if_pos h10, if_neg (by omega), if_neg (by omega), if_neg (by omega), if_neg (by omega)]; rfl
        · rw [if_neg h10]
          by_cases h11 : c k = 11
          · rw [if_pos h11, if_pos h11]; rfl
          · rw [if_neg h11, if_neg h11]
            by_cases h12 : c k = 12
            · rw [if_pos h12, if_pos h12]; rfl
            · rw [if_neg h12, if_neg h12]
              by_cases h13 : c k = 13
              · rw [if_pos h13, if_pos h13]; rfl
              · rw [if_neg h13, if_neg h13]
                by_cases h14 : c k = 14
                · rw [if_pos h14, if_pos h14]; rfl
                · rw [if_neg h14, if_neg h14]; rfl
theorem aOf_lt {x a : Nat} (h : aOf x = some a) : a < 6 ∧ x ≠ 21 := by
  unfold aOf at h
  split at h
  · cases h; omega
  · split at h
    · cases h; omega
    · split at h
      · cases h; omega
      · split at h
        · cases h; omega
        · split at h
          · cases h; omega
          · split at h
            · cases h; omega
            · cases h
theorem cRd.rf (hA : cAt c m k σ) : cRd s c m (.inr (k, 0)) σ σ (nI 0) := ⟨fun _ _ => rfl, rfl, by omega, hA⟩
/-- readTarget -/
theorem s19 (hT : tkI s c m σ) (hA : cAt c m k σ) {a : Nat} (ha : a < 6) : ∃ σ' y, hb_ev hbSH 19 [.ref 43, .int (nI a)] σ = some (some (.int y), σ') ∧ cRd s c m (pTg c a k) σ σ' y := by
  rw [v19, e19_0]
  unfold pTg
  obtain ⟨σ4, y4, a1, a2⟩ := s23 hT hA (b := 4) (by omega) (by omega)
  obtain ⟨σ6, y6, b1, b2⟩ := s23 hT hA (b := 16) (by omega) (by omega)
  rw [show nI 4 = (4 : Int32) from rfl] at a1
  rw [show nI 16 = (16 : Int32) from rfl] at b1
  rcases (show a = 0 ∨ a = 1 ∨ a = 2 ∨ a = 3 ∨ a = 4 ∨ a = 5 by omega) with rfl | rfl | rfl | rfl | rfl | rfl
  · rw [if_pos (by decide), a1, hb_ci_s]; exact ⟨σ4, y4, rfl, a2⟩
  · rw [if_neg (by decide), if_pos (by decide), a1, hb_ci_s]; exact ⟨σ4, y4, rfl, a2⟩
  · rw [if_neg (by decide), if_neg (by decide), if_pos (by decide)]; exact ⟨σ, nI 0, rfl, cRd.rf hA⟩
  · rw [if_neg (by decide), if_neg (by decide), if_neg (by decide), if_pos (by decide), b1, hb_ci_s]; exact ⟨σ6, y6, rfl, b2⟩
  · rw [if_neg (by decide), if_neg (by decide), if_neg (by decide), if_neg (by decide), if_pos (by decide), b1, hb_ci_s]; exact ⟨σ6, y6, rfl, b2⟩
  · rw [if_neg (by decide), if_neg (by decide), if_neg (by decide), if_neg (by decide), if_neg (by decide)]; exact ⟨σ, nI 0, rfl, cRd.rf hA⟩
/-- the end of a step: target, draft, line's end -/
theorem s18_t {S : hbSt} {a v : Nat} (hS : S.1 < 16) (ha : a < 6) (hT : tkI s c m σ) (hA : cAt c m k σ) (h5 : σ 31 5 = nI S.1) (hK : kS σ S) :
    ∃ σ' b, hb_ci (hb_ev hbSH 19 [.ref 43, .int (nI a)] σ) (fun y75 σ75 => if (¬ y75 = (-1000000 : Int32)) then (hb_cv (hb_ev hbSH 34 [.ref 31, .int (nI a), .int y75, .int (nI v)] σ75) (fun σ94 => hb_ci (hb_ev hbSH 24 [.ref 43] σ94) (fun y98 σ98 => hb_g [hb_01 y98] (some (some (.int y98), σ98))))) else (some (some (.int 0), σ75))) = some (some (.int (hbb b)), σ') ∧ (∀ x, x ≠ 43 → x ≠ 31 → x ≠ 32 → x ≠ 33 → x ≠ 34 → σ' x = σ x) ∧ (∀ i, i ≠ 5 → σ' 31 i = σ 31 i) ∧ cLn s c m (match pTg c a k with
      | .inl e => .inl e
      | .inr (k3, t) => pE c k3 (addS S a t v)) (fun σ' => kS σ' S) (fun S' σ' => σ' 31 5 = nI S'.1 ∧ kS σ' S') σ' b := by
  obtain ⟨σ1, y, a1, a2⟩ := s19 hT hA ha
  rw [a1, hb_ci_s]
  cases hp : pTg c a k with
  | inl e =>
    obtain ⟨f, k'⟩ := e
    rw [hp] at a2
    obtain ⟨b3, rfl, b4, b5⟩ := a2
    rw [if_neg (fun z => z rfl)]
    exact ⟨σ1, false, rfl, fun x w _ _ _ _ => b3 x w, fun i _ => by rw [b3 31 (by omega)], rfl, b4, b5, by show kS σ1 S; unfold kS; rw [b3 32 (by omega), b3 33 (by omega), b3 34 (by omega)]; exact hK⟩
  | inr p =>
    obtain ⟨k3, t⟩ := p
    rw [hp] at a2
    obtain ⟨b3, rfl, b4, b5⟩ := a2
    have h51 : σ1 31 5 = nI S.1 := by rw [b3 31 (by omega)]; exact h5
    generalize hσ2 : hb_up (hb_up (hb_up (hb_up σ1 32 S.1 (nI a)) 33 S.1 (nI t)) 34 S.1 (nI v)) 31 5 (nI (S.1 + 1)) = σ2
    have h34 : hb_ev hbSH 34 [.ref 31, .int (nI a), .int (nI t), .int (nI v)] σ1 = some (none, σ2) := by
      rw [v34, e34_0, h51, if_neg (by rw [q_16, q_le (by omega) (by omega)]; omega), q_inT (by omega) hS, hb_g_t, hb_g_t, hb_g_t, hb_g_nil, q_cl (by omega), nI_1, hσ2]
    have o2 : ∀ x, x ≠ 31 → x ≠ 32 → x ≠ 33 → x ≠ 34 → σ2 x = σ1 x := fun x w1 w2 w3 w4 => by rw [← hσ2, um_c _ _ _ w1, um_c _ _ _ w4, um_c _ _ _ w3, um_c _ _ _ w2]
    have h32 : ∀ i, σ2 32 i = if i = S.1 then nI a else σ 32 i := fun i => by rw [← hσ2, um_c _ _ _ (by omega), um_c _ _ _ (by omega), um_c _ _ _ (by omega), um_at, b3 32 (by omega)]
    have h33 : ∀ i, σ2 33 i = if i = S.1 then nI t else σ 33 i := fun i => by rw [← hσ2, um_c _ _ _ (by omega), um_c _ _ _ (by omega), um_at, um_c _ _ _ (by omega), b3 33 (by omega)]
    have h34' : ∀ i, σ2 34 i = if i = S.1 then nI v else σ 34 i := fun i => by rw [← hσ2, um_c _ _ _ (by omega), um_at, um_c _ _ _ (by omega), um_c _ _ _ (by omega), b3 34 (by omega)]
    have hK2 : kS σ2 S := fun i hi => by rw [h32, h33, h34', if_neg (by omega), if_neg (by omega), if_neg (by omega)]; exact hK i hi
    have hK2' : kS σ2 (addS S a t v) := fun i hi => by
      have hi : i < S.1 + 1 := hi
      rw [h32, h33, h34']
      show (if i = S.1 then nI a else σ 32 i) = nI (if i = S.1 then a else S.2.1 i) ∧ (if i = S.1 then nI t else σ 33 i) = nI (if i = S.1 then t else S.2.2.1 i) ∧ (if i = S.1 then nI v else σ 34 i) = nI (if i = S.1 then v else S.2.2.2 i)
      by_cases w : i = S.1
      · rw [if_pos w, if_pos w, if_pos w, if_pos w, if_pos w, if_pos w]; exact ⟨rfl, rfl, rfl⟩
      · rw [if_neg w, if_neg w, if_neg w, if_neg w, if_neg w, if_neg w]; exact hK i (by omega)
    have hT1 := hT.fr b3
    have hT2 : tkI s c m σ2 := by
      obtain ⟨t1, t2, t3, t4, t5, t6⟩ := hT1
      exact ⟨t1, t2, t3, t4, t5, by rw [o2 41 (by omega) (by omega) (by omega) (by omega), o2 42 (by omega) (by omega) (by omega) (by omega)]; exact t6⟩
    have hA2 : cAt c m k3 σ2 := ⟨b5.1, by rw [o2 43 (by omega) (by omega) (by omega) (by omega)]; exact b5.2.1, by rw [o2 43 (by omega) (by omega) (by omega) (by omega)]; exact b5.2.2⟩
    obtain ⟨σ3, b, g1, g2, g3⟩ := pE_ln (K0 := fun σ' => kS σ' S) (K1 := fun S' σ' => σ' 31 5 = nI S'.1 ∧ kS σ' S') hT2 hA2 (addS S a t v) (fun σ' hf => by show kS σ' S; unfold kS; rw [hf 32 (by omega), hf 33 (by omega), hf 34 (by omega)]; exact hK2) (fun σ' hf => ⟨by rw [hf 31 (by omega), ← hσ2, um_s]; rfl, by unfold kS; rw [hf 32 (by omega), hf 33 (by omega), hf 34 (by omega)]; exact hK2'⟩)
    refine ⟨σ3, b, ?_, fun x w0 w1 w2 w3 w4 => by rw [g2 x w0, o2 x w1 w2 w3 w4, b3 x w0], fun i hi => by rw [g2 31 (by omega), ← hσ2, um_i _ _ _ hi, um_c _ _ _ (by omega), um_c _ _ _ (by omega), um_c _ _ _ (by omega), b3 31 (by omega)], g3⟩
    rw [if_pos (nno (by omega)), h34, hb_cv_s, g1, hb_ci_s, hbb_01, hb_g_t, hb_g_nil]
/-- readStep -/
theorem s18 {S : hbSt} (hS16 : S.1 ≤ 16) (hT : tkI s c m σ) (hA : cAt c m k σ) (hk : c k ≠ 21) (h5 : σ 31 5 = nI S.1) (hK : kS σ S) :
    ∃ σ' b, hb_ev hbSH 18 [.ref 43] σ = some (some (.int (hbb b)), σ') ∧ (∀ x, x ≠ 43 → x ≠ 31 → x ≠ 32 → x ≠ 33 → x ≠ 34 → σ' x = σ x) ∧ (∀ i, i ≠ 5 → σ' 31 i = σ 31 i) ∧ cLn s c m (pSt c k S) (fun σ' => kS σ' S) (fun S' σ' => σ' 31 5 = nI S'.1 ∧ kS σ' S') σ' b := by
  have kfr : ∀ {σ1 : hbM}, (∀ x, x ≠ 43 → σ1 x = σ x) → kS σ1 S := fun h => by unfold kS; rw [h 32 (by omega), h 33 (by omega), h 34 (by omega)]; exact hK
  rw [v18, e18_0, h5]
  unfold pSt
  by_cases h16 : 16 ≤ S.1
  · obtain ⟨σ', r1, r2, r3, r4⟩ := s25 hT hA 3
    rw [show nI 3 = (3 : Int32) from rfl] at r1
    rw [if_neg (by rw [q_16, q_lt (by omega) (by omega)]; omega), r1, hb_ci_s, if_pos h16]
    exact ⟨σ', false, rfl, fun x w _ _ _ _ => r2 x w, fun i _ => by rw [r2 31 (by omega)], rfl, r3, r4, kfr r2⟩
  · obtain ⟨σ1, a1, a2, a3⟩ := s26 hT hA hk
    have hT1 := hT.fr a2
    rw [if_pos (by rw [q_16, q_lt (by omega) (by omega)]; omega), a1, hb_cv_s, s22 hT1 a3, hb_ci_s, if_neg h16]
    cases ha : aOf (c (k + 1)) with
    | none =>
      obtain ⟨σ', r1, r2, r3, r4⟩ := s25 hT1 a3 1
      rw [show nI 1 = (1 : Int32) from rfl] at r1
      rw [if_neg (fun z => z rfl), r1, hb_ci_s]
      have fr := fun x hx => (r2 x hx).trans (a2 x hx)
      exact ⟨σ', false, rfl, fun x w _ _ _ _ => fr x w, fun i _ => by rw [fr 31 (by omega)], rfl, r3, r4, kfr fr⟩
    | some a =>
      obtain ⟨ha6, ha21⟩ := aOf_lt ha
      obtain ⟨σ2, b1, b2, b3⟩ := s26 hT1 a3 ha21
      have hT2 := hT1.fr b2
      have fr2 := fun x hx => (b2 x hx).trans (a2 x hx)
      rw [show hbo (some a) = nI a from rfl, if_pos (nno (by omega)), b1, hb_cv_s]
      have e2 : (nI a = (2 : Int32)) = (a = 2) := q_eq (b := 2) (by omega) (by omega)
      have e3 : (nI a = (3 : Int32)) = (a = 3) := q_eq (b := 3) (by omega) (by omega)
      simp only [e2, e3]
      have tail : ∀ (σ3 : hbM) (k2 v : Nat), (∀ x, x ≠ 43 → σ3 x = σ2 x) → cAt c m k2 σ3 → ∃ σ' b, hb_ci (hb_ev hbSH 19 [.ref 43, .int (nI a)] σ3) (fun y75 σ75 => if (¬ y75 = (-1000000 : Int32)) then (hb_cv (hb_ev hbSH 34 [.ref 31, .int (nI a), .int y75, .int (nI v)] σ75) (fun σ94 => hb_ci (hb_ev hbSH 24 [.ref 43] σ94) (fun y98 σ98 => hb_g [hb_01 y98] (some (some (.int y98), σ98))))) else (some (some (.int 0), σ75))) = some (some (.int (hbb b)), σ') ∧ (∀ x, x ≠ 43 → x ≠ 31 → x ≠ 32 → x ≠ 33 → x ≠ 34 → σ' x = σ x) ∧ (∀ i, i ≠ 5 → σ' 31 i = σ 31 i) ∧ cLn s c m (match pTg c a k2 with
          | .inl e => .inl e
          | .inr (k3, t) => pE c k3 (addS S a t v)) (fun σ' => kS σ' S) (fun S' σ' => σ' 31 5 = nI S'.1 ∧ kS σ' S') σ' b := by
        intro σ3 k2 v hf3 hA3
        have fr3 := fun x hx => (hf3 x hx).trans (fr2 x hx)
        obtain ⟨σ', b, g1, g2, g3, g4⟩ := s18_t (S := S) (v := v) (by omega) ha6 (hT2.fr hf3) hA3 (by rw [fr3 31 (by omega)]; exact h5) (kfr fr3)
        exact ⟨σ', b, g1, fun x w0 w1 w2 w3 w4 => (g2 x w0 w1 w2 w3 w4).trans (fr3 x w0), fun i hi => by rw [g3 i hi, fr3 31 (by omega)], g4⟩
      have mid : (a = 2 ∨ a = 3) → ∃ σ' b, hb_run hbSH 18 (53, [.ref 43, .int (nI a), .null, .null], [], σ2) = some (some (.int (hbb b)), σ') ∧ (∀ x, x ≠ 43 → x ≠ 31 → x ≠ 32 → x ≠ 33 → x ≠ 34 → σ' x = σ x) ∧ (∀ i, i ≠ 5 → σ' 31 i = σ 31 i) ∧ cLn s c m (match pCo c a (k + 2) with
          | .inl e => .inl e
          | .inr (k2, v) => match pTg c a k2 with
            | .inl e => .inl e
            | .inr (k3, t) => pE c k3 (addS S a t v)) (fun σ' => kS σ' S) (fun S' σ' => σ' 31 5 = nI S'.1 ∧ kS σ' S') σ' b := by
        intro h23
        obtain ⟨σ3, y, d1, d2, d3⟩ := s20 hT2 b3
        rw [e18_53, d1, hb_ci_s]
        unfold pCo
        rw [if_pos h23]
        cases hp : pC c (k + 2) with
        | inl e =>
          obtain ⟨f, k'⟩ := e
          rw [show k + 1 + 1 = k + 2 from rfl, hp] at d2
          obtain ⟨d4, rfl, d5, d6⟩ := d2
          have fr3 := fun x hx => (d4 x hx).trans (fr2 x hx)
          rw [if_neg (fun z => z rfl)]
          exact ⟨σ3, false, rfl, fun x w _ _ _ _ => fr3 x w, fun i _ => by rw [fr3 31 (by omega)], rfl, d5, d6, kfr fr3⟩
        | inr p =>
          obtain ⟨k2, v⟩ := p
          rw [show k + 1 + 1 = k + 2 from rfl, hp] at d2
          obtain ⟨d4, rfl, d5, d6⟩ := d2
          rw [if_pos (nno (by omega))]
          exact tail σ3 k2 v d4 d6
      by_cases h2 : a = 2
      · rw [if_pos h2]; exact mid (Or.inl h2)
      · rw [if_neg h2]
        by_cases h3 : a = 3
        · rw [if_neg (fun z => z h3)]; exact mid (Or.inr h3)
        · rw [if_pos h3]
          have := tail σ2 (k + 2) 0 (fun _ _ => rfl) b3
          unfold pCo
          rw [if_neg (by omega)]
          exact this
end
