/-! the reference: readOne, a flow -/
def rFq (s : Nat) (σ σ' : hbM) : Prop := (∀ x, x ≠ 54 → x ≠ 58 → x ≠ 59 → x ≠ 60 → σ' x = σ x) ∧ (∀ i, i < 26 ∨ 31 < i → i ≠ 12 → σ' 54 i = σ 54 i) ∧ ∀ i, i ≠ s → σ' 58 i = σ 58 i ∧ σ' 59 i = σ 59 i ∧ σ' 60 i = σ 60 i
theorem rFq.tr {s : Nat} {a b d : hbM} (h1 : rFq s a b) (h2 : rFq s b d) : rFq s a d := ⟨fun x x1 x2 x3 x4 => (h2.1 x x1 x2 x3 x4).trans (h1.1 x x1 x2 x3 x4), fun i hi h => (h2.2.1 i hi h).trans (h1.2.1 i hi h), fun i hi => ⟨(h2.2.2 i hi).1.trans (h1.2.2 i hi).1, (h2.2.2 i hi).2.1.trans (h1.2.2 i hi).2.1, (h2.2.2 i hi).2.2.trans (h1.2.2 i hi).2.2⟩⟩
theorem rG.f {s : Nat} {a b : hbM} (h : rG a b) : rFq s a b := ⟨fun x x1 _ _ _ => h.1 x x1, fun i hi _ => h.2 i hi, fun i _ => ⟨by rw [h.1 58 (by omega)], by rw [h.1 59 (by omega)], by rw [h.1 60 (by omega)]⟩⟩
theorem rFq_12 (s : Nat) (σ : hbM) (v : Int32) : rFq s σ (hb_up σ 54 12 v) := ⟨fun x x1 _ _ _ => um_c _ _ _ x1, fun i _ hi => um_i _ _ _ hi, fun i _ => ⟨by rw [um_c _ _ _ (by omega)], by rw [um_c _ _ _ (by omega)], by rw [um_c _ _ _ (by omega)]⟩⟩
theorem rFq_58 (s : Nat) (σ : hbM) (v : Int32) : rFq s σ (hb_up σ 58 s v) := ⟨fun x _ x2 _ _ => um_c _ _ _ x2, fun i _ hi => by rw [um_c _ _ _ (by omega)], fun i hi => ⟨um_i _ _ _ hi, by rw [um_c _ _ _ (by omega)], by rw [um_c _ _ _ (by omega)]⟩⟩
theorem rFq_59 (s : Nat) (σ : hbM) (v : Int32) : rFq s σ (hb_up σ 59 s v) := ⟨fun x _ _ x3 _ => um_c _ _ _ x3, fun i _ hi => by rw [um_c _ _ _ (by omega)], fun i hi => ⟨by rw [um_c _ _ _ (by omega)], um_i _ _ _ hi, by rw [um_c _ _ _ (by omega)]⟩⟩
theorem rFq_60 (s : Nat) (σ : hbM) (v : Int32) : rFq s σ (hb_up σ 60 s v) := ⟨fun x _ _ _ x4 => um_c _ _ _ x4, fun i _ hi => by rw [um_c _ _ _ (by omega)], fun i hi => ⟨by rw [um_c _ _ _ (by omega)], by rw [um_c _ _ _ (by omega)], um_i _ _ _ hi⟩⟩
theorem rFq.o {s : Nat} {a b : hbM} (h : rFq s a b) : rO a b := ⟨fun x hx h1 => h.1 x hx (by omega) (by omega) (by omega), fun i hi => h.2.1 i (by omega) (by omega)⟩
theorem rK.f {σ σ' : hbM} {D : hbD} (hw : wD D) (h : rK σ D) (hf : rFq D.1.1 σ σ') : rK σ' D := by
  obtain ⟨f1, f2, f3⟩ := hf
  have a := fun x (h0 : x ≠ 54) (h1 : x ≠ 58) (h2 : x ≠ 59) (h3 : x ≠ 60) i => congrFun (f1 x h0 h1 h2 h3) i
  refine ⟨fun i hi => ?_, rKL.e hw.2.1 h.2.1 (fun i _ => a 61 (by omega) (by omega) (by omega) (by omega) _) (fun i j _ _ => ⟨a 62 (by omega) (by omega) (by omega) (by omega) _, a 63 (by omega) (by omega) (by omega) (by omega) _, a 64 (by omega) (by omega) (by omega) (by omega) _⟩), rKL.e hw.2.2.1 h.2.2.1 (fun i _ => a 61 (by omega) (by omega) (by omega) (by omega) _) (fun i j _ _ => ⟨a 62 (by omega) (by omega) (by omega) (by omega) _, a 63 (by omega) (by omega) (by omega) (by omega) _, a 64 (by omega) (by omega) (by omega) (by omega) _⟩), h.2.2.2.e (fun i _ => ⟨a 65 (by omega) (by omega) (by omega) (by omega) _, a 66 (by omega) (by omega) (by omega) (by omega) _⟩) (fun i _ => ⟨a 62 (by omega) (by omega) (by omega) (by omega) _, a 63 (by omega) (by omega) (by omega) (by omega) _, a 64 (by omega) (by omega) (by omega) (by omega) _⟩)⟩
  obtain ⟨g1, g2, g3⟩ := f3 i (by omega)
  rw [g1, g2, g3]
  exact h.1 i hi
section
variable {bt : Nat → Nat} {n : Nat}
theorem rKF_add {σ : hbM} {F : hbF} {v h : Nat} {r : Int} (hK : rKF σ F) (h1 : σ 58 F.1 = nI v) (h2 : σ 59 F.1 = nI h) (h3 : σ 60 F.1 = iI r) : rKF σ (addF F v h r) := by
  intro i hi
  have hi' : i < F.1 + 1 := hi
  unfold addF
  dsimp only
  by_cases z : i = F.1
  · subst z
    simp only [if_pos (show F.1 = F.1 from rfl)]
    exact ⟨h1, h2, h3⟩
  · simp only [if_neg z]
    exact hK i (by omega)
/-- the end of a flow: its way, the end of the line -/
theorem s132_192 {k s : Nat} {σ : hbM} (w : Int64) (hs : s < 8) (s0 : Int32) (hT : rTp bt n σ) (hR : rT bt n σ k) (h30 : σ 54 30 = 0) (h12 : σ 54 12 = nI s) : ∃ σ', hb_run hbSH 132 (192, [.ref 54, .long w, .null], [.int s0, .int (nI s), .ref 60], σ) = some (none, σ') ∧ rFq s σ σ' ∧ σ' 58 = σ 58 ∧ σ' 59 = σ 59 ∧ σ' 60 s = s0 ∧ (if tkD bt n k = 5 ∨ tkD bt n k = 6 then (if tkD bt n (k + 1) = 20 then σ' 54 30 = 0 ∧ rT bt n σ' (k + 2) ∧ σ' 54 12 = nI (s + 1) else rFa bt n 1 (k + 1) σ') else rFa bt n 1 k σ') := by
  have q1 := rFq_60 s σ s0
  have e1 : hb_up σ 60 s s0 58 = σ 58 := um_c _ _ _ (by omega)
  have e2 : hb_up σ 60 s s0 59 = σ 59 := um_c _ _ _ (by omega)
  have e3 : hb_up σ 60 s s0 60 s = s0 := um_s _ _ _ _
  have e4 : hb_up σ 60 s s0 54 = σ 54 := um_c _ _ _ (by omega)
  rw [e132_192, q_inT (by omega) (by omega), hb_g_t, hb_g_nil, q_cl (by omega)]
  generalize hb_up σ 60 s s0 = σ1 at q1 e1 e2 e3 e4 ⊢
  have hT1 := hT.o q1.o
  have hR1 : rT bt n σ1 k := hR.e e4
  have h301 : σ1 54 30 = 0 := by rw [e4]; exact h30
  have h121 : σ1 54 12 = nI s := by rw [e4]; exact h12
  rw [s126 hT1 hR1, hb_cl_s, s126 hT1 hR1, hb_cl_s]
  simp only [w_is (k := k) hT (x := 5) (w := 30064) (by omega) (by decide +kernel), w_is (k := k) hT (x := 6) (w := 1685026670) (by omega) (by decide +kernel)]
  have fin : tkD bt n k = 5 ∨ tkD bt n k = 6 → ∃ σ', hb_run hbSH 132 (221, [.ref 54, .long w, .null], [.int 1, .ref 54], σ1) = some (none, σ') ∧ rFq s σ σ' ∧ σ' 58 = σ 58 ∧ σ' 59 = σ 59 ∧ σ' 60 s = s0 ∧ (if tkD bt n (k + 1) = 20 then σ' 54 30 = 0 ∧ rT bt n σ' (k + 2) ∧ σ' 54 12 = nI (s + 1) else rFa bt n 1 (k + 1) σ') := by
    intro _
    obtain ⟨σ2, a1, a2, a3, a4⟩ := s125t hT1 hR1 h301
    have h122 : σ2 54 12 = nI s := by rw [a2.g.2 12 (by omega)]; exact h121
    rw [e132_221, a1, hb_cv_s, if_neg (fun z => z a4), h122, nI_1]
    have e27 : hb_up σ2 54 12 (nI (s + 1)) 54 27 = σ2 54 27 := um_i _ _ _ (by omega)
    have q3 : rFq s σ (hb_up σ2 54 12 (nI (s + 1))) := (q1.tr a2.g.f).tr (rFq_12 _ _ _)
    obtain ⟨σ4, m1, m2, m3⟩ := s132_322 w (hT.o q3.o) (rT_n a3 (by omega)) (by rw [um_i _ _ _ (by omega)]; exact a4)
    rw [e27] at m1
    have c := fun x (hx : x ≠ 54) => show σ4 x = σ1 x by rw [m2.1 x hx, um_c _ _ _ hx, a2.g.1 x hx]
    refine ⟨σ4, m1, q3.tr m2.f, (c 58 (by omega)).trans e1, (c 59 (by omega)).trans e2, by rw [c 60 (by omega)]; exact e3, ?_⟩
    rcases m3 with ⟨h20, t1, t2⟩ | ⟨h20, t1⟩
    · rw [if_pos h20]; exact ⟨t1, t2, by rw [m2.2 12 (by omega), um_s]⟩
    · rw [if_neg h20]; exact t1
  by_cases h5 : tkD bt n k = 5
  · rw [if_pos h5]
    obtain ⟨σ', t1, t2, t3, t4, t5, t6⟩ := fin (Or.inl h5)
    exact ⟨σ', t1, t2, t3, t4, t5, by rw [if_pos (Or.inl h5)]; exact t6⟩
  · rw [if_neg h5]
    by_cases h6 : tkD bt n k = 6
    · rw [if_neg (fun z => z h6)]
      obtain ⟨σ', t1, t2, t3, t4, t5, t6⟩ := fin (Or.inr h6)
      exact ⟨σ', t1, t2, t3, t4, t5, by rw [if_pos (Or.inr h6)]; exact t6⟩
    · rw [if_pos h6]
      obtain ⟨σ2, a1, a2, a3, a4⟩ := s125f hR1 h301
      rw [e132_221, a1, hb_cv_s, if_pos (by rw [a3]; decide)]
      refine ⟨_, rfl, (q1.tr a2.f).tr (rFq_12 _ _ _), ?_, ?_, ?_, ?_⟩
      · rw [um_c _ _ _ (by omega), a2.1 58 (by omega), e1]
      · rw [um_c _ _ _ (by omega), a2.1 59 (by omega), e2]
      · rw [um_c _ _ _ (by omega), a2.1 60 (by omega), e3]
      · rw [if_neg (show ¬ (tkD bt n k = 5 ∨ tkD bt n k = 6) by omega)]
        exact ⟨by rw [um_i _ _ _ (by omega)]; exact a3, by omega, by omega, by rw [um_i _ _ _ (by omega)]; exact a4⟩
end
