/-! book: both answer alike -/
theorem rK.c {σ σ' : hbM} {D : hbD} (hw : wD D) (h : rK σ D) (hf : ∀ x, 58 ≤ x → x ≤ 66 → σ' x = σ x) : rK σ' D := by
  have a := fun x (h1 : 58 ≤ x) (h2 : x ≤ 66) i => congrFun (hf x h1 h2) i
  exact ⟨h.1.e (hf 58 (by omega) (by omega)) (hf 59 (by omega) (by omega)) (hf 60 (by omega) (by omega)), rKL.e hw.2.1 h.2.1 (fun i _ => a 61 (by omega) (by omega) _) (fun i j _ _ => ⟨a 62 (by omega) (by omega) _, a 63 (by omega) (by omega) _, a 64 (by omega) (by omega) _⟩), rKL.e hw.2.2.1 h.2.2.1 (fun i _ => a 61 (by omega) (by omega) _) (fun i j _ _ => ⟨a 62 (by omega) (by omega) _, a 63 (by omega) (by omega) _, a 64 (by omega) (by omega) _⟩), h.2.2.2.e (fun i _ => ⟨a 65 (by omega) (by omega) _, a 66 (by omega) (by omega) _⟩) (fun i _ => ⟨a 62 (by omega) (by omega) _, a 63 (by omega) (by omega) _, a 64 (by omega) (by omega) _⟩)⟩
theorem hD0.c {σ σ' : hbM} {D : hbD} (h : hD0 σ D) (hf : ∀ x, x < 13 ∨ (31 ≤ x ∧ x < 35) → σ' x = σ x) : hD0 σ' D := by
  unfold hD0 kD kF kL kS at h ⊢
  rw [hf 0 (by omega), hf 1 (by omega), hf 4 (by omega), hf 31 (by omega), hf 7 (by omega), hf 8 (by omega), hf 9 (by omega), hf (1 + 2) (by omega), hf (1 + 1) (by omega), hf (4 + 2) (by omega), hf (4 + 1) (by omega), hf 32 (by omega), hf 33 (by omega), hf 34 (by omega)]
  exact h
theorem book_J {n : Nat} {σ τ : hbM} {D : hbD} (hJ : J n σ) (c : ∀ x, 14 ≤ x → x < 31 ∨ (35 ≤ x ∧ x < 39) ∨ (44 ≤ x ∧ x < 54) ∨ (55 ≤ x ∧ x < 58) ∨ 67 < x → τ x = σ x) (c0 : τ 0 10 = σ 0 10) (c31 : τ 31 6 = σ 31 6) (c39 : τ 39 3 = 0) (c34 : τ 54 34 = σ 54 34) (c48 : τ 54 48 = σ 54 48) (c23 : τ 54 23 = 0) (hf : jF τ)
    (hw : wD D) (hD : hD0 τ D) (hK : rK τ D) (h5 : τ 54 5 = nI D.1.1) (h9 : τ 54 9 = nI D.2.1.1) (h10 : τ 54 10 = nI D.2.2.1.1) (h11 : τ 54 11 = nI D.2.2.2.1) (hst : hSt τ D) : J (n + 1) τ := by
  obtain ⟨⟨⟨F, B, G, w⟩, p2, p3, p4, p5, p6⟩, p7⟩ := hJ
  refine ⟨⟨⟨D.1, D.2.1, D.2.2.1, book_out hw hD hK h5 h9 h10 h11 hst ?_ ?_⟩, ?_, ⟨0, by omega, c39, c23, fun i hi => by omega⟩, ?_, fun s hs => ?_, hf⟩, jR_gen (fun x hx => c x (by omega) (by omega)) p7⟩
  · rw [c0, c34]; exact jW_b w
  · rw [c 37 (by omega) (by omega), c 68 (by omega) (by omega)]; exact jW_l w
  · unfold jP; rw [c 38 (by omega) (by omega), c 69 (by omega) (by omega)]; exact p2
  · unfold jA; rw [c31, c48, c 35 (by omega) (by omega), c 79 (by omega) (by omega)]; exact p4
  · rw [c (15 + s) (by omega) (by omega), c 55 (by omega) (by omega), c 56 (by omega) (by omega), c (23 + s) (by omega) (by omega), c 57 (by omega) (by omega)]
    exact p5 s hs
theorem o_book {n : Nat} {σ : hbM} (hJ : J n σ) : Ok2 n 83 133 [] σ := by
  obtain ⟨⟨⟨F, B, G, w⟩, p2, ⟨t, t1, t2, t3, t4⟩, p4, p5, p6⟩, p7⟩ := id hJ
  obtain ⟨i1, i2, i3, i4, i5, i6, i7⟩ := book_in w
  have i8 := book_st w
  have hbt : ∃ bt : Nat → Nat, (∀ x, bt x < 256) ∧ ∀ i, i < t → σ 40 i = nI (bt i) ∧ σ 67 i = nI (bt i) := by
    refine ⟨fun i => if tn σ 40 i < 256 then tn σ 40 i else 0, fun x => ?_, fun i hi => ?_⟩
    · dsimp only; split <;> omega
    · obtain ⟨b, b1, b2, b3⟩ := t4 i hi
      have : tn σ 40 i = b := by unfold tn; rw [b2, q_cl (by omega)]
      dsimp only
      rw [this, if_pos b1]
      exact ⟨b2, b3⟩
  obtain ⟨bt, u1, u2⟩ := hbt
  obtain ⟨σ1, m, m1, m2, m3, m4⟩ := s83 i1 (bt := bt) (n := t) ⟨t1, u1, fun i hi => (u2 i hi).1⟩ t2 i2
  have hM : ∀ τ : hbM, (∀ x, 54 ≤ x → τ x = σ x) → _ := fun τ hτ => s133 (bt := bt) (n := t) (D := dOf σ F B G) (σ := τ) m2 i1 ⟨t1, u1, fun i hi => by rw [hτ 67 (by omega)]; exact (u2 i hi).2⟩ (by rw [hτ 54 (by omega)]; exact t3) (by rw [hτ 54 (by omega)]; exact i4) (by rw [hτ 54 (by omega)]; exact i5) (by rw [hτ 54 (by omega)]; exact i6) (by rw [hτ 54 (by omega)]; exact i7) (i3.c i1 (fun x h1 _ => hτ x (by omega)))
  generalize pA (tkD bt t) (m + 1) 0 (dOf σ F B G) = o at m4 hM
  match o, m4, hM with
  | .inl (fn, kf), m4, hM =>
    obtain ⟨a1, ⟨b1, b2, b3, b4⟩, a3, a4, a5, a6⟩ := m4
    obtain ⟨σ2, ⟨r1, r2, r3, r4⟩, d1, d2⟩ := hM (hb_up σ1 13 10 (nI fn)) (fun x hx => by rw [um_c _ _ _ (by omega)]; exact b1 x (by omega) (by omega) (by omega) (by omega) (by omega) (by omega) (by omega) (by omega) (by omega))
    have e : ∀ x, x ≠ 13 → x ≠ 54 → x < 58 ∨ 66 < x → hb_up σ2 54 24 (nI fn) x = σ1 x := fun x h1 h2 h3 => by rw [um_c _ _ _ h2, r1 x h2 h3, um_c _ _ _ h1]
    have e54 : ∀ i, 1 ≤ i → i < 12 ∨ (16 ≤ i ∧ i < 23) ∨ 31 < i → hb_up σ2 54 24 (nI fn) 54 i = σ 54 i := fun i h1 h2 => by rw [um_i _ _ _ (by omega), r2 i h1 (by omega), um_c _ _ _ (by omega), b1 54 (by omega) (by omega) (by omega) (by omega) (by omega) (by omega) (by omega) (by omega) (by omega)]
    have e13 : hb_up σ2 54 24 (nI fn) 13 = hb_up σ1 13 10 (nI fn) 13 := by rw [um_c _ _ _ (by omega), r1 13 (by omega) (by omega)]
    refine ⟨_, _, _, a1, d1, book_J (D := dOf σ F B G) hJ ?_ ?_ ?_ ?_ ?_ ?_ ?_ ?_ i1 ?_ ?_ ?_ ?_ ?_ ?_ ?_⟩
    · intro x h1 h2
      rw [e x (by omega) (by omega) (by omega)]
      exact b1 x (by omega) (by omega) (by omega) (by omega) (by omega) (by omega) (by omega) (by omega) (by omega)
    · rw [e 0 (by omega) (by omega) (by omega)]; exact b2 10 (by omega) (by omega)
    · rw [e 31 (by omega) (by omega) (by omega)]; exact b3 6 (by omega) (by omega)
    · rw [e 39 (by omega) (by omega) (by omega)]; exact b4
    · exact e54 34 (by omega) (by omega)
    · exact e54 48 (by omega) (by omega)
    · rw [um_i _ _ _ (by omega)]; exact r4
    · refine ⟨?_, ?_⟩
      · rw [e13, um_i _ _ _ (by omega), e54 1 (by omega) (by omega), b1 13 (by omega) (by omega) (by omega) (by omega) (by omega) (by omega) (by omega) (by omega) (by omega)]; exact p6.1
      · rw [e13, um_s, um_s]
    · exact a3.c (fun x hx => e x (by omega) (by omega) (by omega))
    · exact d2.g i1 (fun x hx => um_c _ _ _ hx)
    · rw [e54 5 (by omega) (by omega)]; exact i4
    · rw [e54 9 (by omega) (by omega)]; exact i5
    · rw [e54 10 (by omega) (by omega)]; exact i6
    · rw [e54 11 (by omega) (by omega)]; exact i7
    · intro x hx
      rw [e 10 (by omega) (by omega) (by omega), e 11 (by omega) (by omega) (by omega), e 12 (by omega) (by omega) (by omega), a4, a5, a6]
      exact i8 x hx
  | .inr D', m4, hM =>
    obtain ⟨a1, ⟨b1, b2, b3, b4⟩, a3, a4, a5⟩ := m4
    obtain ⟨σ2, ⟨r1, r2, r3, r4⟩, d1, d2, d3⟩ := hM σ1 (fun x hx => b1 x (by omega) (by omega) (by omega) (by omega) (by omega) (by omega) (by omega) (by omega) (by omega))
    have g : ∃ τ, τ = hb_up (hb_up (hb_up (hb_up σ2 54 5 (nI D'.1.1)) 54 9 (nI D'.2.1.1)) 54 10 (nI D'.2.2.1.1)) 54 11 (nI D'.2.2.2.1) ∧ (∀ x, x ≠ 54 → τ x = σ2 x) ∧ (∀ i, i ≠ 5 → i ≠ 9 → i ≠ 10 → i ≠ 11 → τ 54 i = σ2 54 i) ∧ τ 54 5 = nI D'.1.1 ∧ τ 54 9 = nI D'.2.1.1 ∧ τ 54 10 = nI D'.2.2.1.1 ∧ τ 54 11 = nI D'.2.2.2.1 := by
      refine ⟨_, rfl, fun x hx => ?_, fun i h1 h2 h3 h4 => ?_, rfl, rfl, rfl, rfl⟩
      · simp only [um_c _ _ _ hx]
      · rw [um_i _ _ _ h4, um_i _ _ _ h3, um_i _ _ _ h2, um_i _ _ _ h1]
    obtain ⟨τ, g0, g1, g2, g3, g4, g5, g6⟩ := g
    rw [← g0] at d1
    have e : ∀ x, x ≠ 54 → x < 58 ∨ 66 < x → τ x = σ1 x := fun x h2 h3 => by rw [g1 x h2, r1 x h2 h3]
    have e54 : ∀ i, i = 1 ∨ i = 24 ∨ 31 < i → τ 54 i = σ 54 i := fun i h2 => by rw [g2 i (by omega) (by omega) (by omega) (by omega), r2 i (by omega) (by omega), b1 54 (by omega) (by omega) (by omega) (by omega) (by omega) (by omega) (by omega) (by omega) (by omega)]
    refine ⟨_, _, _, a1, d1, book_J (D := D') hJ ?_ ?_ ?_ ?_ ?_ ?_ ?_ ?_ a4 ?_ ?_ g3 g4 g5 g6 ?_⟩
    · intro x h1 h2
      rw [e x (by omega) (by omega)]
      exact b1 x (by omega) (by omega) (by omega) (by omega) (by omega) (by omega) (by omega) (by omega) (by omega)
    · rw [e 0 (by omega) (by omega)]; exact b2 10 (by omega) (by omega)
    · rw [e 31 (by omega) (by omega)]; exact b3 6 (by omega) (by omega)
    · rw [e 39 (by omega) (by omega)]; exact b4
    · exact e54 34 (by omega)
    · exact e54 48 (by omega)
    · rw [g2 23 (by omega) (by omega) (by omega) (by omega)]; exact r4
    · unfold jF
      rw [e 13 (by omega) (by omega), e54 1 (by omega), e54 24 (by omega), b1 13 (by omega) (by omega) (by omega) (by omega) (by omega) (by omega) (by omega) (by omega) (by omega)]
      exact p6
    · exact a3.c (fun x hx => e x (by omega) (by omega))
    · exact d2.g d3 g1
    · intro x hx
      rw [e 10 (by omega) (by omega), e 11 (by omega) (by omega), e 12 (by omega) (by omega)]
      exact a5 x hx
