/-! book: the joint graph behind it -/
def hSt (σ : hbM) (D : hbD) : Prop := ∀ x, x < 1024 → σ 10 x = nI (wTick D.1 x) ∧ σ 11 x = hbb (wAny D.2.1 x D.2.1.1) ∧ σ 12 x = hbb (wGood D.2.1 D.2.2.1 x)
theorem book_st {σ : hbM} {F : hbF} {B G : hbL} (h : jW σ F B G) : hSt σ (dOf σ F B G) := by
  intro x hx
  obtain ⟨w1, w2, _, _, w5, w6, _⟩ := h
  refine ⟨?_, w5 x hx, w6 x hx⟩
  have h1 := (q_nn (w1.2.2.1 x hx) (by omega)).1
  have h2 : (σ 10 x).toNatClampNeg = wTick F x := w2.2.2.2.2.1 x hx
  rw [h1, h2]; rfl
theorem book_out {τ : hbM} {D : hbD} (hw : wD D) (hD : hD0 τ D) (hK : rK τ D) (h5 : τ 54 5 = nI D.1.1) (h9 : τ 54 9 = nI D.2.1.1) (h10 : τ 54 10 = nI D.2.2.1.1) (h11 : τ 54 11 = nI D.2.2.2.1) (hst : hSt τ D)
    (hb : ∃ b, b < 65536 ∧ τ 0 10 = nI b ∧ τ 54 34 = nI b) (hl : ∀ v, v < 4 → (τ 37 v = hbNO ∧ τ 68 v = -1) ∨ ∃ w, w < 4 ∧ τ 37 v = nI w ∧ τ 68 v = nI w) : jW τ D.1 D.2.1 D.2.2.1 := by
  obtain ⟨d1, d2, d3, d4, k1, k2, k3, k4⟩ := hD
  obtain ⟨r1, r2, r3, r4⟩ := hK
  obtain ⟨u1, u2, u3, u4, u5⟩ := hw
  obtain ⟨b, b1, b2, b3⟩ := hb
  have t4 : tn τ 31 4 = D.2.2.2.1 := by unfold tn; rw [d4, q_cl (by omega)]
  have tS : ∀ i, i < D.2.2.2.1 → tn τ 32 i = D.2.2.2.2.1 i ∧ tn τ 33 i = D.2.2.2.2.2.1 i ∧ tn τ 34 i = D.2.2.2.2.2.2 i := fun i hi => by
    obtain ⟨v1, v2, v3, v4⟩ := u5 i hi
    obtain ⟨e1, e2, e3⟩ := k4 i hi
    unfold tn
    rw [e1, e2, e3, q_cl (by omega), q_cl (by omega), q_cl (by omega)]
    exact ⟨rfl, rfl, rfl⟩
  have t10 : ∀ x, x < 1024 → tn τ 10 x = wTick D.1 x := fun x hx => by
    have := wTick_lt D.1 x
    unfold tn; rw [(hst x hx).1, q_cl (by omega)]
  have t0 : tn τ 0 10 = b := by unfold tn; rw [b2, q_cl (by omega)]
  refine ⟨⟨?_, fun i hi => ?_, fun x hx => ?_, ?_, fun v hv => ?_⟩, ⟨⟨u1, h5, r1⟩, ?_, ?_, fun i hi => ?_, t10, ?_, ?_, fun v hv => ?_⟩, ⟨u2, h9, r2⟩, ⟨u3, h10, r3⟩, fun x hx => (hst x hx).2.1, fun x hx => (hst x hx).2.2, ⟨d1, k1⟩, ⟨d2, k2⟩, ⟨d3, k3⟩⟩
  · rw [d4]; exact q_inT (by omega) (by omega)
  · rw [t4] at hi
    obtain ⟨v1, v2, v3, v4⟩ := u5 i hi
    obtain ⟨e1, e2, e3⟩ := k4 i hi
    obtain ⟨s1, s2, s3⟩ := tS i hi
    rw [s1, s2, e1, e2, e3]
    exact ⟨q_inT (by omega) v1, q_inT (by omega) v2, v3, q_inT (by omega) v4⟩
  · have := wTick_lt D.1 x
    rw [(hst x hx).1]; exact q_inT (by omega) this
  · rw [b2]; exact q_inT (by omega) b1
  · rcases hl v hv with ⟨q, _⟩ | ⟨w, q1, q2, _⟩
    · exact Or.inl q
    · exact Or.inr (by rw [q2]; exact q_inT (by omega) q1)
  · show tn τ 31 4 ≤ 16
    rw [t4]; exact u4
  · show τ 54 11 = nI (tn τ 31 4)
    rw [t4]; exact h11
  · have hi' : i < tn τ 31 4 := hi
    rw [t4] at hi'
    obtain ⟨v1, v2, v3, v4⟩ := u5 i hi'
    obtain ⟨s1, s2, s3⟩ := tS i hi'
    obtain ⟨m1, m2, m3⟩ := r4 i hi'
    show tn τ 32 i < 6 ∧ τ 65 i = nI (cact (tn τ 32 i)) ∧ tn τ 33 i < 16 ∧ (tn τ 32 i < 2 → tn τ 33 i < 4) ∧ (tn τ 32 i ≠ 2 → tn τ 32 i ≠ 5 → τ 66 i = nI (tn τ 33 i)) ∧ ((tn τ 32 i = 2 ∨ tn τ 32 i = 3) → mC τ (24 + i) ∧ cM τ (24 + i) = tn τ 34 i)
    rw [s1, s2, s3]
    exact ⟨v1, m1, v2, v3, m2, m3⟩
  · show tn τ 0 10 < 65536
    rw [t0]; exact b1
  · show τ 54 34 = nI (tn τ 0 10)
    rw [t0]; exact b3
  · show ((if τ 37 v = hbNO then none else some (tn τ 37 v)) = none ∧ τ 68 v = -1) ∨ ∃ w, w < 4 ∧ (if τ 37 v = hbNO then none else some (tn τ 37 v)) = some w ∧ τ 68 v = nI w
    rcases hl v hv with ⟨q1, q2⟩ | ⟨w, q1, q2, q3⟩
    · exact Or.inl ⟨if_pos q1, q2⟩
    · refine Or.inr ⟨w, q1, ?_, q3⟩
      rw [q2, if_neg (fun q => by rw [q_no (by omega)] at q; exact q)]
      unfold tn
      rw [q2, q_cl (by omega)]
