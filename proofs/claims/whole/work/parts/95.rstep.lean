/-! the reference: readStep -/
def pSx (c : Nat → Nat) (k : Nat) : (Nat × Nat) ⊕ (Nat × Nat × Nat × Nat) := match aOf (c k) with
  | none => .inl (1, k)
  | some a => match pCo c a (k + 1) with
    | .inl e => .inl e
    | .inr (k2, v) => match pTg c a k2 with
      | .inl e => .inl e
      | .inr (k3, t) => .inr (k3, a, t, v)
theorem pSx_eq (c : Nat → Nat) (k : Nat) (S : hbSt) : pSt c k S = if 16 ≤ S.1 then .inl (3, k) else (match pSx c (k + 1) with
    | .inl e => .inl e
    | .inr (k3, a, t, v) => pE c k3 (addS S a t v)) := by
  unfold pSt pSx
  split
  · rfl
  · cases aOf (c (k + 1)) with
    | none => rfl
    | some a =>
      dsimp only
      cases pCo c a (k + 2) with
      | inl e => rfl
      | inr kv =>
        obtain ⟨k2, v⟩ := kv
        dsimp only
        cases pTg c a k2 with
        | inl e => rfl
        | inr kt => obtain ⟨k3, t⟩ := kt; rfl
def rSq (s : Nat) (σ σ' : hbM) : Prop := (∀ x, x ≠ 54 → x ≠ 62 → x ≠ 63 → x ≠ 64 → x ≠ 65 → x ≠ 66 → σ' x = σ x) ∧ (∀ i, i < 26 ∨ 31 < i → i ≠ 15 → σ' 54 i = σ 54 i) ∧ (∀ i, i ≠ s → σ' 65 i = σ 65 i ∧ σ' 66 i = σ 66 i) ∧ ∀ i, i ≠ 24 + s → σ' 62 i = σ 62 i ∧ σ' 63 i = σ 63 i ∧ σ' 64 i = σ 64 i
theorem rSq.tr {s : Nat} {a b d : hbM} (h1 : rSq s a b) (h2 : rSq s b d) : rSq s a d := ⟨fun x x1 x2 x3 x4 x5 x6 => (h2.1 x x1 x2 x3 x4 x5 x6).trans (h1.1 x x1 x2 x3 x4 x5 x6), fun i hi h15 => (h2.2.1 i hi h15).trans (h1.2.1 i hi h15), fun i hi => ⟨(h2.2.2.1 i hi).1.trans (h1.2.2.1 i hi).1, (h2.2.2.1 i hi).2.trans (h1.2.2.1 i hi).2⟩, fun i hi => ⟨(h2.2.2.2 i hi).1.trans (h1.2.2.2 i hi).1, (h2.2.2.2 i hi).2.1.trans (h1.2.2.2 i hi).2.1, (h2.2.2.2 i hi).2.2.trans (h1.2.2.2 i hi).2.2⟩⟩
theorem rG.s {s : Nat} {a b : hbM} (h : rG a b) : rSq s a b := ⟨fun x x1 _ _ _ _ _ => h.1 x x1, fun i hi _ => h.2 i hi, fun i _ => ⟨by rw [h.1 65 (by omega)], by rw [h.1 66 (by omega)]⟩, fun i _ => ⟨by rw [h.1 62 (by omega)], by rw [h.1 63 (by omega)], by rw [h.1 64 (by omega)]⟩⟩
theorem rSq_15 (s : Nat) (σ : hbM) (v : Int32) : rSq s σ (hb_up σ 54 15 v) := ⟨fun x x1 _ _ _ _ _ => um_c _ _ _ x1, fun i _ hi => um_i _ _ _ hi, fun i _ => ⟨by rw [um_c _ _ _ (by omega)], by rw [um_c _ _ _ (by omega)]⟩, fun i _ => ⟨by rw [um_c _ _ _ (by omega)], by rw [um_c _ _ _ (by omega)], by rw [um_c _ _ _ (by omega)]⟩⟩
theorem rSq_65 (s : Nat) (σ : hbM) (v : Int32) : rSq s σ (hb_up σ 65 s v) := ⟨fun x _ _ _ _ x5 _ => um_c _ _ _ x5, fun i _ hi => by rw [um_c _ _ _ (by omega)], fun i hi => ⟨um_i _ _ _ hi, by rw [um_c _ _ _ (by omega)]⟩, fun i _ => ⟨by rw [um_c _ _ _ (by omega)], by rw [um_c _ _ _ (by omega)], by rw [um_c _ _ _ (by omega)]⟩⟩
theorem rSq_66 (s : Nat) (σ : hbM) (v : Int32) : rSq s σ (hb_up σ 66 s v) := ⟨fun x _ _ _ _ _ x6 => um_c _ _ _ x6, fun i _ hi => by rw [um_c _ _ _ (by omega)], fun i hi => ⟨by rw [um_c _ _ _ (by omega)], um_i _ _ _ hi⟩, fun i _ => ⟨by rw [um_c _ _ _ (by omega)], by rw [um_c _ _ _ (by omega)], by rw [um_c _ _ _ (by omega)]⟩⟩
theorem rSq_cd (s : Nat) (σ : hbM) (a b d : Int32) : rSq s σ (hb_up (hb_up (hb_up σ 62 (24 + s) a) 63 (24 + s) b) 64 (24 + s) d) := ⟨fun x _ x3 x4 x5 _ _ => by rw [um_c _ _ _ x5, um_c _ _ _ x4, um_c _ _ _ x3], fun j _ _ => by rw [um_c _ _ _ (by omega), um_c _ _ _ (by omega), um_c _ _ _ (by omega)], fun j _ => ⟨by rw [um_c _ _ _ (by omega), um_c _ _ _ (by omega), um_c _ _ _ (by omega)], by rw [um_c _ _ _ (by omega), um_c _ _ _ (by omega), um_c _ _ _ (by omega)]⟩, fun j hj => ⟨um_o62 _ _ _ _ _ _ hj, um_o63 _ _ _ _ _ _ hj, um_o64 _ _ _ _ _ _ hj⟩⟩
section
variable {bt : Nat → Nat} {n : Nat}
theorem rTp.s {s : Nat} {σ σ' : hbM} (h : rTp bt n σ) (hf : rSq s σ σ') : rTp bt n σ' := ⟨⟨h.1.1, h.1.2.1, fun i hi => by rw [hf.1 67 (by omega) (by omega) (by omega) (by omega) (by omega) (by omega)]; exact h.1.2.2 i hi⟩, by rw [hf.2.1 25 (by omega) (by omega)]; exact h.2⟩
theorem rT_15 {k : Nat} {σ : hbM} {v : Int32} (h : rT bt n σ k) : rT bt n (hb_up σ 54 15 v) k := by
  unfold rT at h ⊢
  rw [um_i _ _ _ (by omega), um_i _ _ _ (by omega), um_i _ _ _ (by omega), um_i _ _ _ (by omega)]
  exact h
/-- the target, a fault standing -/
theorem s131_92x {s f : Nat} {σ : hbM} (x1 s0 : Int32) (hs : s < 16) (h30 : σ 54 30 = nI f) (hf : 0 < f) (hf4 : f < 4) (h15 : σ 54 15 = nI s) : ∃ σ', hb_run hbSH 131 (92, [.ref 54, .int x1], [.int s0, .ref 54, .int (nI s), .ref 66], σ) = some (none, σ') ∧ rSq s σ σ' ∧ σ' 54 30 = nI f ∧ σ' 54 31 = σ 54 31 := by
  rw [e131_92, s127x h30 hf hf4, hb_ci_s, q_inT (by omega) (by omega), hb_g_t, hb_g_nil, q_cl (by omega)]
  refine ⟨_, rfl, (rSq_66 _ _ _).tr (rSq_15 _ _ _), ?_, ?_⟩
  · rw [um_i _ _ _ (by omega), um_c _ _ _ (by omega)]; exact h30
  · rw [um_i _ _ _ (by omega), um_c _ _ _ (by omega)]
def rFa (bt : Nat → Nat) (n f k : Nat) (σ' : hbM) : Prop := σ' 54 30 = nI f ∧ 0 < f ∧ f < 4 ∧ σ' 54 31 = nI (tkS bt n k)
theorem s131_92 {s k b : Nat} {σ : hbM} (x1 : Int32) (hs : s < 16) (hb1 : 1 ≤ b) (hb : b < 100) (hT : rTp bt n σ) (hR : rT bt n σ k) (h30 : σ 54 30 = 0) (h15 : σ 54 15 = nI s) : ∃ σ', hb_run hbSH 131 (92, [.ref 54, .int x1], [.int (nI (b - 1)), .ref 54, .int (nI s), .ref 66], σ) = some (none, σ') ∧ rSq s σ σ' ∧ (match pN (tkD bt n) b k with
    | .inl (f, k2) => rFa bt n f k2 σ'
    | .inr (k2, t) => σ' 54 30 = 0 ∧ rT bt n σ' k2 ∧ σ' 54 15 = nI (s + 1) ∧ σ' 66 s = nI t ∧ ∀ x, x ≠ 54 → x ≠ 66 → σ' x = σ x) := by
  obtain ⟨σ1, y, a1, a2, a3⟩ := s127 hb1 hb hT hR h30
  have h15' : σ1 54 15 = nI s := by rw [a2.2 15 (by omega)]; exact h15
  rw [e131_92, a1, hb_ci_s, q_inT (by omega) (by omega), hb_g_t, hb_g_nil, q_cl (by omega), h15', nI_1]
  refine ⟨_, rfl, (a2.s.tr (rSq_66 _ _ _)).tr (rSq_15 _ _ _), ?_⟩
  generalize pN (tkD bt n) b k = o at a3 ⊢
  match o, a3 with
  | .inl (f, k2), a3 =>
    obtain ⟨c1, c2, c3, c4⟩ := a3
    refine ⟨?_, c2, c3, ?_⟩
    · rw [um_i _ _ _ (by omega), um_c _ _ _ (by omega)]; exact c1
    · rw [um_i _ _ _ (by omega), um_c _ _ _ (by omega)]; exact c4
  | .inr (k2, t), a3 =>
    obtain ⟨c1, c2, c3, c4⟩ := a3
    refine ⟨?_, ?_, um_s _ _ _ _, ?_, fun x x1 x2 => ?_⟩
    · rw [um_i _ _ _ (by omega), um_c _ _ _ (by omega)]; exact c3
    · exact rT_15 (c4.e (um_c _ _ _ (by omega)))
    · rw [um_c _ _ _ (by omega), um_s, c1]
    · rw [um_c _ _ _ x1, um_c _ _ _ x2, a2.1 x x1]
end
