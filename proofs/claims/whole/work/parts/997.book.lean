/-! book: both sides -/
/-- the book as it stands -/
def dOf (σ : hbM) (F : hbF) (B G : hbL) : hbD := (F, B, G, (tn σ 31 4, tn σ 32, tn σ 33, tn σ 34))
theorem book_in {σ : hbM} {F : hbF} {B G : hbL} (h : jW σ F B G) : wD (dOf σ F B G) ∧ hD0 σ (dOf σ F B G) ∧ rK σ (dOf σ F B G) ∧ σ 54 5 = nI F.1 ∧ σ 54 9 = nI B.1 ∧ σ 54 10 = nI G.1 ∧ σ 54 11 = nI (tn σ 31 4) := by
  obtain ⟨⟨g1, g2, g3, g4, g5⟩, ⟨⟨f1, f2, f3⟩, r1, r2, r3, r4⟩, ⟨b1, b2, b3⟩, ⟨c1, c2, c3⟩, _, _, ⟨x1, x2⟩, ⟨y1, y2⟩, ⟨z1, z2⟩⟩ := h
  obtain ⟨e1, e2⟩ := q_nn g1 (by omega)
  refine ⟨⟨f1, b1, c1, r1, fun i hi => ?_⟩, ⟨x1, y1, z1, e1, x2, y2, z2, fun i hi => ?_⟩, ⟨f3, b3, c3, fun i hi => ?_⟩, f2, b2, c2, r2⟩
  · obtain ⟨k1, k2, k3, k4⟩ := g2 i hi
    exact ⟨(q_nn k1 (by omega)).2, (q_nn k2 (by omega)).2, k3, (q_nn k4 (by omega)).2⟩
  · obtain ⟨k1, k2, k3, k4⟩ := g2 i hi
    exact ⟨(q_nn k1 (by omega)).1, (q_nn k2 (by omega)).1, (q_nn k4 (by omega)).1⟩
  · obtain ⟨k1, k2, k3, k4, k5, k6⟩ := r3 i hi
    exact ⟨k2, k5, k6⟩
