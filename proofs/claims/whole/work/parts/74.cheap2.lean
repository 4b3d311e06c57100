/-! cheapest: the class's search -/
abbrev nMk (σ : hbM) (r : Nat) : Nat := cnt (fun p => mk σ r p 0) 17408
section
variable (P : hbGP) (pr : Nat → Nat) (bd : Nat → Bool) (r st : Nat)
def dB (sz i : Nat) (L : Nat → Nat) (σ : hbM) : Prop :=
  (gI σ ∧ gP σ = P ∧ rI σ r ∧ (∀ s, s < 1024 → σ 11 s = hbb (bd s)) ∧ ∀ s, s < 4 → σ 38 s = nI (pr s)) ∧ σ 53 7 = nI sz ∧
  (∀ p, p < 17408 → mk σ r p 0 = true → σ 47 p = nI (L p) ∧ vK (L p) ∧ L p ≤ 12800 * nMk σ r ∧ Wk P pr bd st p (L p)) ∧ sz + i = nMk σ r
def dI (sz i : Nat) (H L : Nat → Nat) (σ : hbM) : Prop :=
  dB P pr bd r st sz i L σ ∧ (∀ k, k < sz → σ 45 k = nI (H k) ∧ σ 46 (H k) = nI k ∧ H k < 17408 ∧ mk σ r (H k) 0 = true) ∧ (∀ x y, x < sz → y < sz → H x = H y → x = y) ∧ hO L sz H ∧ ∀ p, p < 17408 → mk σ r p 0 = true → σ 46 p = -1 ∨ ∃ k, k < sz ∧ H k = p
/-- what a step leaves -/
def dR (L L' : Nat → Nat) (σ σ' : hbM) : Prop :=
  cW σ σ' ∧ (∀ i, i ≠ 7 → σ' 53 i = σ 53 i) ∧ (∀ p, p < 17408 → mk σ r p 0 = true → mk σ' r p 0 = true ∧ L' p ≤ L p) ∧ (∀ p, p < 17408 → mk σ' r p 0 = true → σ' 46 p = -1 → mk σ r p 0 = true ∧ σ 46 p = -1 ∧ L' p = L p) ∧ ∀ p, p < 17408 → mk σ r p 0 = true → σ 46 p = -1 → σ' 46 p = -1
end
section
variable {P : hbGP} {pr : Nat → Nat} {bd : Nat → Bool} {r st : Nat}
theorem dR.rf (L : Nat → Nat) (σ : hbM) : dR r L L σ σ := ⟨cW.rf σ, fun _ _ => rfl, fun _ _ h => ⟨h, Nat.le_refl _⟩, fun _ _ h1 h2 => ⟨h1, h2, rfl⟩, fun _ _ _ h => h⟩
theorem dR.tr {L1 L2 L3 : Nat → Nat} {a b c : hbM} (h1 : dR r L1 L2 a b) (h2 : dR r L2 L3 b c) : dR r L1 L3 a c := by
  obtain ⟨a1, a2, a3, a4, a5⟩ := h1
  obtain ⟨b1, b2, b3, b4, b5⟩ := h2
  refine ⟨a1.tr b1, fun i hi => (b2 i hi).trans (a2 i hi), fun p hp h => ?_, fun p hp h1 h2 => ?_, fun p hp h1 h2 => b5 p hp (a3 p hp h1).1 (a5 p hp h1 h2)⟩
  · obtain ⟨c1, c2⟩ := a3 p hp h
    obtain ⟨d1, d2⟩ := b3 p hp c1
    exact ⟨d1, by omega⟩
  · obtain ⟨c1, c2, c3⟩ := b4 p hp h1 h2
    obtain ⟨d1, d2, d3⟩ := a4 p hp c1 c2
    exact ⟨d1, d2, by omega⟩
/-- behind the heap's own work -/
theorem dI_of {sz i : Nat} {H H' L : Nat → Nat} {σ σ' : hbM} (hB : dB P pr bd r st sz i L σ) (hM1 : ∀ k, k < sz → H k < 17408 ∧ mk σ r (H k) 0 = true) (hM2 : ∀ p, p < 17408 → mk σ r p 0 = true → σ 46 p = -1 ∨ ∃ k, k < sz ∧ H k = p) (hD : hD L sz H H' σ σ') : dI P pr bd r st sz i H' L σ' ∧ (∀ p, mk σ' r p 0 = mk σ r p 0) ∧ ∀ q, (∃ k, k < sz ∧ H' k = q) ↔ ∃ k, k < sz ∧ H k = q := by
  obtain ⟨d1, d2, d3, d4, d5, d6⟩ := hD
  obtain ⟨⟨g1, g2, g3, g4, g5⟩, b2, b3, b4⟩ := hB
  have hcS : cS σ σ' := fun c hc => d5 c (by omega) (by omega)
  have hmk : ∀ p, mk σ' r p 0 = mk σ r p 0 := fun p => by unfold mk tn; rw [d5 48 (by omega) (by omega)]
  have hN : nMk σ' r = nMk σ r := cnt_eq _ (fun p _ => hmk p)
  refine ⟨⟨⟨⟨cS_gI hcS g1, (cS_gP hcS).trans g2, ⟨by rw [d5 44 (by omega) (by omega)]; exact g3.1, g3.2.1, by rw [d5 48 (by omega) (by omega)]; exact g3.2.2⟩, fun s hs => by rw [hcS 11 (by omega)]; exact g4 s hs, fun s hs => by rw [hcS 38 (by omega)]; exact g5 s hs⟩, by rw [d5 53 (by omega) (by omega)]; exact b2, fun p hp h => by rw [d5 47 (by omega) (by omega), hN]; exact b3 p hp (by rw [← hmk]; exact h), by rw [hN]; exact b4⟩, fun k hk => ?_, d2, d4, fun p hp h => ?_⟩, hmk, d3⟩
  · obtain ⟨a1, a2⟩ := d1 k hk
    obtain ⟨j, hj, e⟩ := (d3 (H' k)).mp ⟨k, hk, rfl⟩
    obtain ⟨c1, c2⟩ := hM1 j hj
    exact ⟨a1, a2, by rw [← e]; exact c1, by rw [hmk, ← e]; exact c2⟩
  · rw [hmk] at h
    by_cases z : ∃ k, k < sz ∧ H k = p
    · exact Or.inr ((d3 p).mpr z)
    · rw [d6 p (fun k hk e => z ⟨k, hk, e⟩)]
      exact Or.inl ((hM2 p hp h).resolve_right z)
theorem nm1 {k : Nat} (h : k < 2147483648) : ¬ nI k = (-1 : Int32) := fun z => by rw [show (-1 : Int32) = -nI 1 from rfl, q_neg h (by omega) (by omega)] at z; exact z
/-- offer -/
theorem s2 {sz i κ K : Nat} {H L : Nat → Nat} {σ : hbM} (hI : dI P pr bd r st sz i H L σ) (o : Option Nat) (ho : ∀ q, o = some q → q < 17408 ∧ vK K ∧ Wk P pr bd st q K ∧ K ≤ 12800 * nMk σ r + 12799 ∧ κ ≤ K) (hK : K < 2000000000) (hlow : ∀ p, p < 17408 → mk σ r p 0 = true → σ 46 p = -1 → L p ≤ κ) (hhp : ∀ k, k < sz → κ ≤ L (H k)) :
    ∃ σ' sz' H' L', hb_ev hbSH 2 [.ref 53, .int (hbo o), .int (nI K)] σ = some (none, σ') ∧ dI P pr bd r st sz' i H' L' σ' ∧ dR r L L' σ σ' ∧ (∀ k, k < sz' → κ ≤ L' (H' k)) ∧ ∀ q, o = some q → mk σ' r q 0 = true ∧ L' q ≤ K := by
  cases o with
  | none => exact ⟨σ, sz, H, L, by rw [v2, e2_0, if_neg (fun z => z rfl)], hI, dR.rf L σ, hhp, fun q e => by cases e⟩
  | some q =>
    obtain ⟨hq, hvK, hWk, hKb, hκK⟩ := ho q rfl
    obtain ⟨hB, h1, h2, h3, h4⟩ := id hI
    obtain ⟨⟨g1, g2, g3, g4, g5⟩, b2, b3, b4⟩ := id hB
    have hN : nMk σ r ≤ 17408 := cnt_le _ _
    have h28 := s28 g3 (p := q) (l := 0) hq (by omega)
    rw [show nI 0 = (0 : Int32) from rfl] at h28
    have hin : hb_in (nI q) 17408 = true := q_inT (by omega) hq
    have ho : ∀ c, c ≠ 48 → eE σ r q 0 c = σ c := fun c hc => eE_o _ _ _ _ hc
    have hcS0 := eE_cS σ r q 0
    have hcW0 := eE_cW σ r q 0
    have hmk0 : ∀ p, mk (eE σ r q 0) r p 0 = (mk σ r p 0 || decide (p = q)) := fun p => by
      rw [eE_mk g3 hq (by omega) (by omega)]; simp
    rw [v2, e2_0, if_pos (show ¬ hbo (some q) = (-1000000 : Int32) from nno (by omega)), show hbo (some q) = nI q from rfl, h28, hb_ci_s]
    cases hm : mk σ r q 0 with
    | true =>
      have hmk : ∀ p, mk (eE σ r q 0) r p 0 = mk σ r p 0 := fun p => by
        rw [hmk0]
        by_cases z : p = q
        · rw [z, hm]; rfl
        · rw [decide_eq_false z, Bool.or_false]
      have hNe : nMk (eE σ r q 0) r = nMk σ r := cnt_eq _ (fun p _ => hmk p)
      obtain ⟨c1, c2, c3, c4⟩ := b3 q hq hm
      have hBe : dB P pr bd r st sz i L (eE σ r q 0) := ⟨⟨cS_gI hcS0 g1, (cS_gP hcS0).trans g2, eE_rI g3 (by omega), fun s hs => by rw [ho 11 (by omega)]; exact g4 s hs, fun s hs => by rw [ho 38 (by omega)]; exact g5 s hs⟩, by rw [ho 53 (by omega)]; exact b2, fun p hp h => by rw [ho 47 (by omega), hNe]; exact b3 p hp (by rw [← hmk]; exact h), by rw [hNe]; exact b4⟩
      have hIe : dI P pr bd r st sz i H L (eE σ r q 0) := ⟨hBe, fun k hk => by rw [ho 45 (by omega), ho 46 (by omega), hmk]; exact h1 k hk, h2, h3, fun p hp h => by rw [ho 46 (by omega)]; exact h4 p hp (by rw [← hmk]; exact h)⟩
      have hRe : dR r L L σ (eE σ r q 0) := ⟨hcW0, fun i _ => by rw [ho 53 (by omega)], fun p _ h => ⟨by rw [hmk]; exact h, Nat.le_refl _⟩, fun p _ h h' => by rw [hmk] at h; rw [ho 46 (by omega)] at h'; exact ⟨h, h', rfl⟩, fun p _ _ h => by rw [ho 46 (by omega)]; exact h⟩
      rw [Bool.not_true, hbb_f, if_pos rfl, hin, hb_g_t, hb_g_nil, q_cl (by omega), ho 46 (by omega), ho 47 (by omega), c1]
      by_cases hs : σ 46 q = -1
      · rw [if_pos hs]
        refine ⟨_, sz, H, L, rfl, hIe, hRe, hhp, fun q' e => ?_⟩
        cases e
        exact ⟨by rw [hmk]; exact hm, by have := hlow q hq hm hs; omega⟩
      · rw [if_neg hs, hb_g_t, hb_g_nil]
        by_cases hk : L q ≤ K
        · rw [if_pos (by rw [q_le (by omega) (by omega)]; exact hk)]
          refine ⟨_, sz, H, L, rfl, hIe, hRe, hhp, fun q' e => ?_⟩
          cases e
          exact ⟨by rw [hmk]; exact hm, hk⟩
        · obtain ⟨k, hk1, hk2⟩ := (h4 q hq hm).resolve_left hs
          rw [if_neg (by rw [q_le (by omega) (by omega)]; exact hk), hb_g_t, hb_g_t, hb_g_nil]
          obtain ⟨a1, a2, a3, a4⟩ := h1 k hk1
          rw [hk2] at a2
          rw [a2]
          obtain ⟨L1, hL1, hL1q⟩ : ∃ L1 : Nat → Nat, (∀ x, x ≠ q → L1 x = L x) ∧ L1 q = K := ⟨fun x => if x = q then K else L x, fun x hx => if_neg hx, if_pos rfl⟩
          have hL1le : ∀ x, L1 x ≤ L x := fun x => by
            by_cases z : x = q
            · rw [z, hL1q]; omega
            · rw [hL1 x z]; exact Nat.le_refl _
          generalize hσ1 : hb_up (eE σ r q 0) 47 q (nI K) = σ1
          have ho1 : ∀ c, c ≠ 47 → σ1 c = eE σ r q 0 c := fun c hc => by rw [← hσ1, um_c _ _ _ hc]
          have hmk1 : ∀ p, mk σ1 r p 0 = mk σ r p 0 := fun p => by rw [← hmk]; unfold mk tn; rw [ho1 48 (by omega)]
          have hN1 : nMk σ1 r = nMk σ r := cnt_eq _ (fun p _ => hmk1 p)
          have h47 : ∀ p, p < 17408 → mk σ r p 0 = true → σ1 47 p = nI (L1 p) := fun p hp h => by
            rw [← hσ1, um_at]
            by_cases z : p = q
            · rw [if_pos z, z, hL1q]
            · rw [if_neg z, hL1 p z, ho 47 (by omega)]; exact (b3 p hp h).1
          have hcS1 : cS σ σ1 := fun c hc => by rw [ho1 c (by omega)]; exact hcS0 c hc
          have hB1 : dB P pr bd r st sz i L1 σ1 := by
            refine ⟨⟨cS_gI hcS1 g1, (cS_gP hcS1).trans g2, by rw [← hσ1]; exact (eE_rI g3 (by omega)).up _ _ (by omega), fun s hs => by rw [hcS1 11 (by omega)]; exact g4 s hs, fun s hs => by rw [hcS1 38 (by omega)]; exact g5 s hs⟩, by rw [ho1 53 (by omega), ho 53 (by omega)]; exact b2, fun p hp h => ?_, by rw [hN1]; exact b4⟩
            rw [hmk1] at h
            refine ⟨h47 p hp h, ?_⟩
            rw [hN1]
            by_cases z : p = q
            · rw [z, hL1q]; exact ⟨hvK, by omega, hWk⟩
            · rw [hL1 p z]; exact (b3 p hp h).2
          have hHH : hH L1 sz k H σ1 := by
            refine ⟨fun j hj _ => ?_, h2, fun j hj => ?_⟩
            · obtain ⟨e1, e2, _⟩ := h1 j hj
              rw [ho1 45 (by omega), ho1 46 (by omega), ho 45 (by omega), ho 46 (by omega)]
              exact ⟨e1, e2⟩
            · obtain ⟨e1, e2, e3, e4⟩ := h1 j hj
              have := (b3 _ e3 e4).2.2.1
              exact ⟨e3, h47 _ e3 e4, by have := hL1le (H j); omega⟩
          obtain ⟨σ', H', r1, r2⟩ := s4 (by omega) hk1 hHH (fun j h1' h2' h3' => by
            have hne : H j ≠ q := fun z => h3' (h2 j k h2' hk1 (by rw [z, hk2]))
            rw [hL1 _ hne]
            have := h3 j h1' h2'
            have := hL1le (H ((j - 1) / 2))
            omega) (fun c h1' h2' h3' h4' => by
            have hne : H c ≠ q := fun z => by
              have := h2 c k h2' hk1 (by rw [z, hk2])
              omega
            rw [hL1 _ hne]
            have e1 := h3 c h1' h2'
            rw [h3'] at e1
            have e2 := h3 k (by omega) hk1
            have := hL1le (H ((k - 1) / 2))
            omega)
          rw [hk2] at r1
          obtain ⟨hI', hmk', hrng⟩ := dI_of hB1 (fun j hj => ⟨(h1 j hj).2.2.1, by rw [hmk1]; exact (h1 j hj).2.2.2⟩) (fun p hp h => by rw [ho1 46 (by omega), ho 46 (by omega)]; exact h4 p hp (by rw [← hmk1]; exact h)) r2
          rw [r1, hb_cv_s]
          refine ⟨σ', sz, H', L1, rfl, hI', ⟨fun c hc => ?_, fun j hj => ?_, fun p hp h => ⟨by rw [hmk', hmk1]; exact h, hL1le p⟩, fun p hp h h' => ?_, fun p hp h h' => ?_⟩, fun j hj => ?_, fun q' e => ?_⟩
          · rw [r2.2.2.2.2.1 c (by omega) (by omega), ho1 c (by omega)]; exact hcW0 c hc
          · rw [r2.2.2.2.2.1 53 (by omega) (by omega), ho1 53 (by omega), ho 53 (by omega)]
          · rw [hmk', hmk1] at h
            have hnr : ¬ ∃ j, j < sz ∧ H j = p := fun z => by
              obtain ⟨j, hj, e⟩ := (hrng p).mpr z
              have := (r2.1 j hj).2
              rw [e, h'] at this
              exact nm1 (by omega) this.symm
            have h46 := (h4 p hp h).resolve_right hnr
            exact ⟨h, h46, hL1 p (fun z => hs (by rw [← z]; exact h46))⟩
          · rw [r2.2.2.2.2.2 p (fun j hj e => by
              have := (h1 j hj).2.1
              rw [e, h'] at this
              exact nm1 (by omega) this.symm), ho1 46 (by omega), ho 46 (by omega)]
            exact h'
          · obtain ⟨j', hj', e⟩ := (hrng (H' j)).mp ⟨j, hj, rfl⟩
            rw [← e]
            by_cases z : H j' = q
            · rw [z, hL1q]; exact hκK
            · rw [hL1 _ z]; exact hhp j' hj'
          · cases e
            exact ⟨by rw [hmk', hmk1]; exact hm, by rw [hL1q]; exact Nat.le_refl _⟩
    | false =>
      have hcs := cnt_set (f := fun p => mk σ r p 0) hm 17408 hq
      have hNe : nMk (eE σ r q 0) r = nMk σ r + 1 := by rw [← hcs]; exact cnt_eq _ (fun p _ => hmk0 p)
      have hN1 : nMk (eE σ r q 0) r ≤ 17408 := cnt_le _ _
      obtain ⟨L1, hL1, hL1q⟩ : ∃ L1 : Nat → Nat, (∀ x, x ≠ q → L1 x = L x) ∧ L1 q = K := ⟨fun x => if x = q then K else L x, fun x hx => if_neg hx, if_pos rfl⟩
      obtain ⟨H1, hH1, hH1n⟩ : ∃ H1 : Nat → Nat, (∀ x, x < sz → H1 x = H x) ∧ H1 sz = q := ⟨fun x => if x = sz then q else H x, fun x hx => if_neg (by omega), if_pos rfl⟩
      rw [Bool.not_false, hbb_t, if_neg (by decide), hin, hb_g_t, hb_g_nil, q_cl (by omega), ho 53 (by omega), b2, nI_1, show nI (sz + 1) - (1 : Int32) = nI sz from by rw [q_1, q_sub (by omega)]; rfl]
      generalize hσ1 : hb_up (hb_up (eE σ r q 0) 47 q (nI K)) 53 7 (nI (sz + 1)) = σ1
      have ho1 : ∀ c, c ≠ 47 → c ≠ 53 → σ1 c = eE σ r q 0 c := fun c h1 h2 => by rw [← hσ1, um_c _ _ _ h2, um_c _ _ _ h1]
      have hmk1 : ∀ p, mk σ1 r p 0 = (mk σ r p 0 || decide (p = q)) := fun p => by rw [← hmk0]; unfold mk tn; rw [ho1 48 (by omega) (by omega)]
      have hN1' : nMk σ1 r = nMk σ r + 1 := by rw [← hcs]; exact cnt_eq _ (fun p _ => hmk1 p)
      have hmq : ∀ p, mk σ r p 0 = true → p ≠ q := fun p h z => by rw [z, hm] at h; cases h
      have h47 : ∀ p, p < 17408 → mk σ1 r p 0 = true → σ1 47 p = nI (L1 p) := fun p hp h => by
        rw [← hσ1, um_c _ _ _ (by omega), um_at]
        by_cases z : p = q
        · rw [if_pos z, z, hL1q]
        · rw [if_neg z, hL1 p z, ho 47 (by omega)]
          rw [hmk1, decide_eq_false z, Bool.or_false] at h
          exact (b3 p hp h).1
      have hcS1 : cS σ σ1 := fun c hc => by rw [ho1 c (by omega) (by omega)]; exact hcS0 c hc
      have hB1 : dB P pr bd r st (sz + 1) i L1 σ1 := by
        refine ⟨⟨cS_gI hcS1 g1, (cS_gP hcS1).trans g2, by rw [← hσ1]; exact ((eE_rI g3 (by omega)).up _ _ (by omega)).up _ _ (by omega), fun s hs => by rw [hcS1 11 (by omega)]; exact g4 s hs, fun s hs => by rw [hcS1 38 (by omega)]; exact g5 s hs⟩, by rw [← hσ1, um_s], fun p hp h => ?_, by rw [hN1']; omega⟩
        refine ⟨h47 p hp h, ?_⟩
        rw [hN1']
        by_cases z : p = q
        · rw [z, hL1q]; exact ⟨hvK, by omega, hWk⟩
        · rw [hmk1, decide_eq_false z, Bool.or_false] at h
          obtain ⟨_, e2, e3, e4⟩ := b3 p hp h
          rw [hL1 p z]; exact ⟨e2, by omega, e4⟩
      have hHq : ∀ j, j < sz → H j ≠ q := fun j hj => hmq _ (h1 j hj).2.2.2
      have hHH : hH L1 (sz + 1) sz H1 σ1 := by
        refine ⟨fun j hj hjs => ?_, fun x y hx hy e => ?_, fun j hj => ?_⟩
        · have hj' : j < sz := by omega
          obtain ⟨e1, e2, _⟩ := h1 j hj'
          rw [hH1 j hj', ho1 45 (by omega) (by omega), ho1 46 (by omega) (by omega), ho 45 (by omega), ho 46 (by omega)]
          exact ⟨e1, e2⟩
        · by_cases zx : x = sz
          · by_cases zy : y = sz
            · omega
            · rw [zx, hH1n, hH1 y (by omega)] at e
              exact absurd e.symm (hHq y (by omega))
          · by_cases zy : y = sz
            · rw [zy, hH1n, hH1 x (by omega)] at e
              exact absurd e (hHq x (by omega))
            · rw [hH1 x (by omega), hH1 y (by omega)] at e
              exact h2 x y (by omega) (by omega) e
        · by_cases z : j = sz
          · rw [z, hH1n]
            exact ⟨hq, h47 q hq (by rw [hmk1]; simp), by rw [hL1q]; exact hK⟩
          · obtain ⟨e1, e2, e3, e4⟩ := h1 j (by omega)
            have := (b3 _ e3 e4).2.2.1
            rw [hH1 j (by omega)]
            exact ⟨e3, h47 _ e3 (by rw [hmk1, e4]; rfl), by rw [hL1 _ (hHq j (by omega))]; omega⟩
      obtain ⟨σ', H', r1, r2⟩ := s4 (by omega) (show sz < sz + 1 by omega) hHH (fun j h1' h2' h3' => by
        rw [hH1 j (by omega), hH1 ((j - 1) / 2) (by omega), hL1 _ (hHq _ (by omega)), hL1 _ (hHq _ (by omega))]
        exact h3 j h1' (by omega)) (fun c h1' h2' h3' h4' => by omega)
      rw [hH1n] at r1
      obtain ⟨hI', hmk', hrng⟩ := dI_of hB1 (fun j hj => by
        by_cases z : j = sz
        · rw [z, hH1n]; exact ⟨hq, by rw [hmk1]; simp⟩
        · rw [hH1 j (by omega)]; exact ⟨(h1 j (by omega)).2.2.1, by rw [hmk1, (h1 j (by omega)).2.2.2]; rfl⟩) (fun p hp h => by
        rw [ho1 46 (by omega) (by omega), ho 46 (by omega)]
        by_cases z : p = q
        · exact Or.inr ⟨sz, by omega, by rw [hH1n, z]⟩
        · rw [hmk1, decide_eq_false z, Bool.or_false] at h
          rcases h4 p hp h with e | ⟨k, hk, e⟩
          · exact Or.inl e
          · exact Or.inr ⟨k, by omega, by rw [hH1 k hk]; exact e⟩) r2
      rw [r1, hb_cv_s]
      refine ⟨σ', sz + 1, H', L1, rfl, hI', ⟨fun c hc => ?_, fun j hj => ?_, fun p hp h => ⟨by rw [hmk', hmk1, h]; rfl, by rw [hL1 p (hmq p h)]; exact Nat.le_refl _⟩, fun p hp h h' => ?_, fun p hp h h' => ?_⟩, fun j hj => ?_, fun q' e => ?_⟩
      · rw [r2.2.2.2.2.1 c (by omega) (by omega), ho1 c (by omega) (by omega)]; exact hcW0 c hc
      · rw [r2.2.2.2.2.1 53 (by omega) (by omega), ← hσ1, um_i _ _ _ hj, um_c _ _ _ (by omega), ho 53 (by omega)]
      · rw [hmk', hmk1] at h
        have hnr : ¬ ∃ j, j < sz + 1 ∧ H1 j = p := fun z => by
          obtain ⟨j, hj, e⟩ := (hrng p).mpr z
          have := (r2.1 j hj).2
          rw [e, h'] at this
          exact nm1 (by omega) this.symm
        have hpq : p ≠ q := fun z => hnr ⟨sz, by omega, by rw [hH1n, z]⟩
        rw [decide_eq_false hpq, Bool.or_false] at h
        refine ⟨h, (h4 p hp h).resolve_right (fun ⟨k, hk, e⟩ => hnr ⟨k, by omega, by rw [hH1 k hk]; exact e⟩), hL1 p hpq⟩
      · rw [r2.2.2.2.2.2 p (fun j hj e => by
          by_cases z : j = sz
          · rw [z, hH1n] at e; exact hmq p h e.symm
          · rw [hH1 j (by omega)] at e
            have := (h1 j (by omega)).2.1
            rw [e, h'] at this
            exact nm1 (by omega) this.symm), ho1 46 (by omega) (by omega), ho 46 (by omega)]
        exact h'
      · obtain ⟨j', hj', e⟩ := (hrng (H' j)).mp ⟨j, hj, rfl⟩
        rw [← e]
        by_cases z : j' = sz
        · rw [z, hH1n, hL1q]; exact hκK
        · rw [hH1 j' (by omega), hL1 _ (hHq j' (by omega))]; exact hhp j' (by omega)
      · cases e
        exact ⟨by rw [hmk', hmk1]; simp, by rw [hL1q]; exact Nat.le_refl _⟩
/-- takeLeast -/
theorem s3 {sz i : Nat} {H L : Nat → Nat} {σ : hbM} (hI : dI P pr bd r st sz i H L σ) (h0 : 0 < sz) :
    ∃ σ' H', hb_ev hbSH 3 [.ref 53] σ = some (some (.int (nI (H 0))), σ') ∧ dI P pr bd r st (sz - 1) (i + 1) H' L σ' ∧ cW σ σ' ∧ (∀ j, j ≠ 7 → σ' 53 j = σ 53 j) ∧ (∀ p, mk σ' r p 0 = mk σ r p 0) ∧ (∀ p, p < 17408 → mk σ r p 0 = true → (σ' 46 p = -1 ↔ σ 46 p = -1 ∨ p = H 0)) ∧ ∀ k, k < sz - 1 → ∃ j, j < sz ∧ H' k = H j := by
  obtain ⟨hB, h1, h2, h3, h4⟩ := id hI
  obtain ⟨⟨g1, g2, g3, g4, g5⟩, b2, b3, b4⟩ := id hB
  have hN : nMk σ r ≤ 17408 := cnt_le _ _
  obtain ⟨a1, a2, a3, a4⟩ := h1 0 h0
  have es : nI sz - (1 : Int32) = nI (sz - 1) := by rw [q_1, q_sub (by omega)]
  generalize hσ1 : hb_up (hb_up σ 46 (H 0) (-1)) 53 7 (nI (sz - 1)) = σ1
  have ho1 : ∀ c, c ≠ 46 → c ≠ 53 → σ1 c = σ c := fun c x y => by rw [← hσ1, um_c _ _ _ y, um_c _ _ _ x]
  have h46 : ∀ p, σ1 46 p = if p = H 0 then -1 else σ 46 p := fun p => by rw [← hσ1, um_c _ _ _ (by omega), um_at]
  have h537 : σ1 53 7 = nI (sz - 1) := by rw [← hσ1, um_s]
  have h53 : ∀ j, j ≠ 7 → σ1 53 j = σ 53 j := fun j hj => by rw [← hσ1, um_i _ _ _ hj, um_c _ _ _ (by omega)]
  have hmk1 : ∀ p, mk σ1 r p 0 = mk σ r p 0 := fun p => by unfold mk tn; rw [ho1 48 (by omega) (by omega)]
  have hN1 : nMk σ1 r = nMk σ r := cnt_eq _ (fun p _ => hmk1 p)
  have hcS1 : cS σ σ1 := fun c hc => ho1 c (by omega) (by omega)
  have hB1 : dB P pr bd r st (sz - 1) (i + 1) L σ1 := ⟨⟨cS_gI hcS1 g1, (cS_gP hcS1).trans g2, ⟨by rw [ho1 44 (by omega) (by omega)]; exact g3.1, g3.2.1, by rw [ho1 48 (by omega) (by omega)]; exact g3.2.2⟩, fun s hs => by rw [hcS1 11 (by omega)]; exact g4 s hs, fun s hs => by rw [hcS1 38 (by omega)]; exact g5 s hs⟩, h537, fun p hp h => by rw [ho1 47 (by omega) (by omega), hN1]; exact b3 p hp (by rw [← hmk1]; exact h), by rw [hN1]; omega⟩
  have hne : ∀ j, j < sz → j ≠ 0 → H j ≠ H 0 := fun j hj hj0 e => hj0 (h2 j 0 hj h0 e)
  rw [v3, e3_0, show Int32.toNatClampNeg 0 = 0 from rfl, a1, b2, es, show hb_in 0 17408 = true from rfl, q_inT (by omega) a3, hb_g_t, hb_g_t, hb_g_nil, q_cl (by omega), hσ1]
  by_cases hs1 : sz = 1
  · subst hs1
    rw [if_pos (by decide)]
    refine ⟨σ1, H, rfl, ⟨hB1, fun k hk => by omega, fun x y hx => by omega, fun k _ hk => by omega, fun p hp h => Or.inl ?_⟩, fun c hc => ho1 c (by omega) (by omega), h53, hmk1, fun p hp h => ?_, fun k hk => by omega⟩
    · rw [h46]
      by_cases z : p = H 0
      · rw [if_pos z]
      · rw [if_neg z]
        rw [hmk1] at h
        refine (h4 p hp h).resolve_right (fun ⟨k, hk, e⟩ => z ?_)
        rw [← e, show k = 0 by omega]
    · rw [h46]
      by_cases z : p = H 0
      · rw [if_pos z]; exact ⟨fun _ => Or.inr z, fun _ => rfl⟩
      · rw [if_neg z]; exact ⟨fun e => Or.inl e, fun e => e.resolve_right z⟩
  · obtain ⟨H1, hH1, hH10⟩ : ∃ H1 : Nat → Nat, (∀ k, k ≠ 0 → H1 k = H k) ∧ H1 0 = H (sz - 1) := ⟨fun k => if k = 0 then H (sz - 1) else H k, fun k hk => if_neg hk, if_pos rfl⟩
    have hrng1 : ∀ k, k < sz - 1 → ∃ j, j < sz ∧ j ≠ 0 ∧ H1 k = H j := fun k hk => by
      by_cases z : k = 0
      · exact ⟨sz - 1, by omega, by omega, by rw [z, hH10]⟩
      · exact ⟨k, by omega, z, hH1 k z⟩
    have hHH : hH L (sz - 1) 0 H1 σ1 := by
      refine ⟨fun k hk hk0 => ?_, fun x y hx hy e => ?_, fun k hk => ?_⟩
      · obtain ⟨e1, e2, _⟩ := h1 k (by omega)
        rw [hH1 k hk0, ho1 45 (by omega) (by omega), h46, if_neg (hne k (by omega) hk0)]
        exact ⟨e1, e2⟩
      · by_cases zx : x = 0
        · by_cases zy : y = 0
          · omega
          · rw [zx, hH10, hH1 y zy] at e
            have := h2 _ _ (by omega) (by omega) e; omega
        · by_cases zy : y = 0
          · rw [zy, hH10, hH1 x zx] at e
            have := h2 _ _ (by omega) (by omega) e; omega
          · rw [hH1 x zx, hH1 y zy] at e
            exact h2 _ _ (by omega) (by omega) e
      · obtain ⟨j, hj, _, e⟩ := hrng1 k hk
        obtain ⟨_, _, c3, c4⟩ := h1 j hj
        obtain ⟨d1, d2, d3, _⟩ := b3 _ c3 c4
        rw [e, ho1 47 (by omega) (by omega)]
        exact ⟨c3, d1, by omega⟩
    obtain ⟨σ', H', r1, r2⟩ := s5 (by omega) (show 0 < sz - 1 by omega) h537 hHH (fun k h1' h2' h3' => by
      rw [hH1 k (by omega), hH1 _ h3']
      exact h3 k h1' (by omega))
    rw [hH10] at r1
    obtain ⟨hI', hmk', hrng⟩ := dI_of hB1 (fun k hk => by
      obtain ⟨j, hj, _, e⟩ := hrng1 k hk
      rw [e, hmk1]; exact (h1 j hj).2.2) (fun p hp h => by
      rw [hmk1] at h
      rw [h46]
      by_cases z : p = H 0
      · rw [if_pos z]; exact Or.inl rfl
      · rw [if_neg z]
        rcases h4 p hp h with e | ⟨k, hk, e⟩
        · exact Or.inl e
        · right
          by_cases y : k = sz - 1
          · exact ⟨0, by omega, by rw [hH10, ← y]; exact e⟩
          · exact ⟨k, by omega, by rw [hH1 k (fun y => z (by rw [← e, y]))]; exact e⟩) r2
    rw [if_neg (by rw [q_0, q_le (by omega) (by omega)]; omega), q_inT (by omega) (by omega), hb_g_t, hb_g_nil, q_cl (by omega), (h1 (sz - 1) (by omega)).1, r1, hb_cv_s]
    refine ⟨σ', H', rfl, hI', fun c hc => ?_, fun j hj => ?_, fun p => by rw [hmk', hmk1], fun p hp h => ?_, fun k hk => ?_⟩
    · rw [r2.2.2.2.2.1 c (by omega) (by omega)]; exact ho1 c (by omega) (by omega)
    · rw [r2.2.2.2.2.1 53 (by omega) (by omega)]; exact h53 j hj
    · by_cases z : ∃ k, k < sz - 1 ∧ H1 k = p
      · obtain ⟨k, hk, e⟩ := (hrng p).mpr z
        have e2 := (r2.1 k hk).2
        rw [e] at e2
        obtain ⟨k2, hk2, e3⟩ := z
        obtain ⟨j, hj, hj0, e4⟩ := hrng1 k2 hk2
        have e5 := (h1 j hj).2.1
        rw [← e4, e3] at e5
        constructor
        · intro y; rw [e2] at y; exact absurd y (nm1 (by omega))
        · rintro (y | y)
          · rw [e5] at y; exact absurd y (nm1 (by omega))
          · exact absurd (by rw [← y, ← e3]; exact e4.symm) (hne j hj hj0)
      · rw [r2.2.2.2.2.2 p (fun k hk e => z ⟨k, hk, e⟩), h46]
        by_cases y : p = H 0
        · rw [if_pos y]; exact ⟨fun _ => Or.inr y, fun _ => rfl⟩
        · rw [if_neg y]; exact ⟨fun e => Or.inl e, fun e => e.resolve_right y⟩
    · obtain ⟨j, hj, e⟩ := (hrng (H' k)).mp ⟨k, hk, rfl⟩
      obtain ⟨j2, hj2, _, e2⟩ := hrng1 j hj
      exact ⟨j2, hj2, by rw [← e]; exact e2⟩
end
