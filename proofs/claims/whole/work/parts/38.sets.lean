/-! CALLS THAT SET: like, price, bar -/
/-- the works and the steps stay; bars and likes as said -/
theorem jW_gen {σ σ' : hbM} {F : hbF} {B G : hbL} (h : jW σ F B G)
    (a : ∀ c, (0 < c ∧ c < 13 ∨ 32 ≤ c ∧ c < 35 ∨ 58 ≤ c ∧ c < 67) → σ' c = σ c) (a0 : σ' 0 8 = σ 0 8) (a31 : σ' 31 4 = σ 31 4) (a54 : ∀ i, (i = 5 ∨ i = 9 ∨ i = 10 ∨ i = 11) → σ' 54 i = σ 54 i)
    (hb : ∃ b, b < 65536 ∧ σ' 0 10 = nI b ∧ σ' 54 34 = nI b)
    (hl : ∀ v, v < 4 → (σ' 37 v = hbNO ∧ σ' 68 v = -1) ∨ ∃ w, w < 4 ∧ σ' 37 v = nI w ∧ σ' 68 v = nI w) : jW σ' F B G := by
  obtain ⟨w1, w2, w3, w4, w5, w6, w7, w8, w9⟩ := h
  obtain ⟨b, b1, b2, b3⟩ := hb
  have e : ∀ c, (0 < c ∧ c < 13 ∨ 32 ≤ c ∧ c < 35 ∨ 58 ≤ c ∧ c < 67) → tn σ' c = tn σ c := fun c hc => by funext i; unfold tn; rw [a c hc]
  have e4 : tn σ' 31 4 = tn σ 31 4 := by unfold tn; rw [a31]
  have eC : ∀ i, mC σ i → mC σ' i := fun i hi => by unfold mC; rw [a 62 (by omega), a 63 (by omega), a 64 (by omega)]; exact hi
  have eM : ∀ i, cM σ' i = cM σ i := fun i => by unfold cM; rw [e 62 (by omega), e 63 (by omega), e 64 (by omega)]
  have eL : ∀ (L : hbL) f o, (f = 9 ∨ f = 10) → mL σ L f o → mL σ' L f o := fun L f o hf hL => by
    obtain ⟨k1, k2, k3⟩ := hL
    refine ⟨k1, by rw [a54 f (by omega)]; exact k2, fun i hi => ?_⟩
    obtain ⟨m1, m2⟩ := k3 i hi
    exact ⟨by rw [a 61 (by omega)]; exact m1, fun j hj => ⟨eC _ (m2 j hj).1, by rw [eM]; exact (m2 j hj).2⟩⟩
  refine ⟨?_, ?_, eL _ _ _ (Or.inl rfl) w3, eL _ _ _ (Or.inr rfl) w4, fun st hs => by rw [a 11 (by omega)]; exact w5 st hs, fun st hs => by rw [a 12 (by omega)]; exact w6 st hs, ?_, ?_, ?_⟩
  · obtain ⟨h1, h2, h3, h4, h5⟩ := w1
    refine ⟨by rw [a31]; exact h1, fun i hi => ?_, fun st hs => by rw [a 10 (by omega)]; exact h3 st hs, by rw [b2]; exact q_inT (by omega) b1, fun v hv => ?_⟩
    · rw [e4] at hi
      rw [a 32 (by omega), a 33 (by omega), a 34 (by omega), e 32 (by omega), e 33 (by omega)]
      exact h2 i hi
    · rcases hl v hv with ⟨q, _⟩ | ⟨w, q1, q2, _⟩
      · exact Or.inl q
      · exact Or.inr (by rw [q2]; exact q_inT (by omega) q1)
  · obtain ⟨⟨f1, f2, f3⟩, hn, hn2, hi, hT, _, _, _⟩ := w2
    have g1 : (gP σ').1 = (gP σ).1 := e4
    have g2 : (gP σ').2.1 = (gP σ).2.1 := e 32 (by omega)
    have g3 : (gP σ').2.2.1 = (gP σ).2.2.1 := e 33 (by omega)
    have g4 : (gP σ').2.2.2.1 = (gP σ).2.2.2.1 := e 34 (by omega)
    have g5 : (gP σ').2.2.2.2.1 = (gP σ).2.2.2.2.1 := e 10 (by omega)
    have g6 : (gP σ').2.2.2.2.2.1 = b := by show tn σ' 0 10 = b; unfold tn; rw [b2, q_cl (by omega)]
    unfold mR
    rw [g1, g2, g3, g4, g5, g6]
    refine ⟨⟨f1, by rw [a54 5 (by omega)]; exact f2, fun i hi => by rw [a 58 (by omega), a 59 (by omega), a 60 (by omega)]; exact f3 i hi⟩, hn, by rw [a54 11 (by omega)]; exact hn2, fun i hk => ?_, hT, b1, b3, fun v hv => ?_⟩
    · obtain ⟨a1, a2, a3, a4, a5, a6⟩ := hi i hk
      exact ⟨a1, by rw [a 65 (by omega)]; exact a2, a3, a4, fun x y => by rw [a 66 (by omega)]; exact a5 x y, fun x => ⟨eC _ (a6 x).1, by rw [eM]; exact (a6 x).2⟩⟩
    · show ((if σ' 37 v = hbNO then none else some (tn σ' 37 v)) = none ∧ σ' 68 v = -1) ∨ ∃ w, w < 4 ∧ (if σ' 37 v = hbNO then none else some (tn σ' 37 v)) = some w ∧ σ' 68 v = nI w
      rcases hl v hv with ⟨q1, q2⟩ | ⟨w, q1, q2, q3⟩
      · exact Or.inl ⟨if_pos q1, q2⟩
      · refine Or.inr ⟨w, q1, ?_, q3⟩
        rw [q2, if_neg (fun q => by rw [q_no (by omega)] at q; exact q)]
        unfold tn
        rw [q2, q_cl (by omega)]
  · unfold cF; rw [a0, a 7 (by omega), a 8 (by omega), a 9 (by omega)]; exact w7
  · unfold cL; rw [a 1 (by omega), a 2 (by omega), a 3 (by omega)]; exact w8
  · unfold cL; rw [a 4 (by omega), a 5 (by omega), a 6 (by omega)]; exact w9
theorem jW_b {σ : hbM} {F : hbF} {B G : hbL} (h : jW σ F B G) : ∃ b, b < 65536 ∧ σ 0 10 = nI b ∧ σ 54 34 = nI b :=
  ⟨_, h.2.1.2.2.2.2.2.1, (q_nn h.1.2.2.2.1 (by omega)).1, h.2.1.2.2.2.2.2.2.1⟩
theorem jW_l {σ : hbM} {F : hbF} {B G : hbL} (h : jW σ F B G) : ∀ v, v < 4 → (σ 37 v = hbNO ∧ σ 68 v = -1) ∨ ∃ w, w < 4 ∧ σ 37 v = nI w ∧ σ 68 v = nI w := by
  intro v hv
  have h1 : ((if σ 37 v = hbNO then none else some (tn σ 37 v)) = none ∧ σ 68 v = -1) ∨ ∃ w, w < 4 ∧ (if σ 37 v = hbNO then none else some (tn σ 37 v)) = some w ∧ σ 68 v = nI w := h.2.1.2.2.2.2.2.2.2 v hv
  have h2 := h.1.2.2.2.2 v hv
  by_cases hn : σ 37 v = hbNO
  · rw [if_pos hn] at h1
    rcases h1 with ⟨_, q⟩ | ⟨w, _, q, _⟩
    · exact Or.inl ⟨hn, q⟩
    · cases q
  · rw [if_neg hn] at h1
    rcases h1 with ⟨q, _⟩ | ⟨w, q1, q2, q3⟩
    · cases q
    · refine Or.inr ⟨w, q1, ?_, q3⟩
      have h3 := (q_nn (h2.resolve_left hn) (by omega)).1
      cases q2
      exact h3
/-- the other conjuncts, where their cells stay -/
theorem J0_gen {σ σ' : hbM} (hJ : J0 σ) (a : ∀ c, (0 < c ∧ c < 37 ∨ 39 ≤ c ∧ c < 44 ∨ 55 ≤ c ∧ c < 68 ∨ c = 79) → σ' c = σ c) (a0 : σ' 0 8 = σ 0 8) (a54 : ∀ i, (i = 1 ∨ i = 5 ∨ i = 9 ∨ i = 10 ∨ i = 11 ∨ i = 23 ∨ i = 24 ∨ i = 48) → σ' 54 i = σ 54 i)
    (hb : ∃ b, b < 65536 ∧ σ' 0 10 = nI b ∧ σ' 54 34 = nI b)
    (hl : ∀ v, v < 4 → (σ' 37 v = hbNO ∧ σ' 68 v = -1) ∨ ∃ w, w < 4 ∧ σ' 37 v = nI w ∧ σ' 68 v = nI w) (hp : jP σ') : J0 σ' := by
  obtain ⟨⟨F, B, G, w⟩, h2, h3, h4, h5, h6⟩ := hJ
  refine ⟨⟨F, B, G, jW_gen w (fun c hc => a c (by omega)) a0 (by rw [a 31 (by omega)]) (fun i hi => a54 i (by omega)) hb hl⟩, hp, ?_, ?_, ?_, ?_⟩
  · unfold jT; rw [a 39 (by omega), a54 23 (by omega), a 40 (by omega), a 67 (by omega)]; exact h3
  · unfold jA; rw [a 31 (by omega), a54 48 (by omega), a 35 (by omega), a 79 (by omega)]; exact h4
  · intro s hs
    rw [a (15 + s) (by omega), a 55 (by omega), a 56 (by omega), a (23 + s) (by omega), a 57 (by omega)]
    exact h5 s hs
  · unfold jF; rw [a 13 (by omega), a54 1 (by omega), a54 24 (by omega)]; exact h6
theorem jR_gen {n : Nat} {σ σ' : hbM} (h : ∀ c, (c = 44 ∨ c = 48 ∨ c = 51 ∨ c = 52) → σ' c = σ c) (hr : jR n σ) : jR (n + 1) σ' := by
  obtain ⟨r, h1, h2⟩ := hr
  exact ⟨r, by omega, rJ_c h h2⟩
/-- price -/
theorem s_99 (x : Int32) : decide ((1 : Int64) ≤ x.toInt64 ∧ x.toInt64 ≤ 99) = decide (1 ≤ x.toInt ∧ x.toInt ≤ 99) := by
  apply decide_eq_decide.mpr
  rw [Int64.le_iff_toInt_le, Int64.le_iff_toInt_le, Int32.toInt_toInt64]
  exact Iff.rfl
theorem o_price {n : Nat} {σ : hbM} (hJ : J n σ) (x y : Int32) : Ok2 n 86 139 [.int x, .int y] σ := by
  obtain ⟨⟨⟨F, B, G, w⟩, h2, h3, h4, h5, h6⟩, h7⟩ := id hJ
  have c1 : (y < (1 : Int32)) = (y.toInt < 1) := propext Int32.lt_iff_toInt_lt
  have c2 : (y ≤ (99 : Int32)) = (y.toInt ≤ 99) := propext Int32.le_iff_toInt_le
  cases hx : hb_in x 4 with
  | false =>
    refine Ok2.rd hJ (r := -1000001) ?_ ?_
    · rw [v86, e86_0, s110n _ _ 4 q_4 (by omega), hb_ci_s, hx]; rfl
    · rw [v139, e139_0, s137, hb_ci_s, hx]; rfl
  | true =>
    by_cases hy : 1 ≤ y.toInt ∧ y.toInt ≤ 99
    · obtain ⟨k, hk, rfl⟩ := q_in_of hx
      obtain ⟨v, v1, v2, v3, v4⟩ := h2 k hk
      obtain ⟨j, hj, rfl⟩ := nI_of (x := y) (by rw [Int32.lt_iff_toInt_lt]; have := hy.1; show ¬ y.toInt < 0; omega)
      rw [q_ti (by omega)] at hy c1 c2
      refine ⟨nI v, hb_up σ 38 k (nI j), hb_up (hb_up (hb_up σ 38 k (nI j)) 54 0 0) 69 k (nI j), ?_, ?_, ?_, ?_⟩
      · rw [v86, e86_0, s110n _ _ 4 q_4 (by omega), hb_ci_s, hx, hbb_t, if_neg (by decide), if_neg (by rw [c1]; omega), if_pos (by rw [c2]; omega), hb_g_t, hb_g_t, hb_g_nil, q_cl (by omega), v3]
      · rw [v139, e139_0, s137, hb_ci_s, hx, hbb_t, if_neg (by decide), s112, hb_ci_s, s_99, q_ti (by omega), decide_eq_true hy, hbb_t, if_pos (by decide), hb_g_t, hb_g_t, hb_g_nil, q_cl (by omega), um_c _ _ _ (by omega), um_c _ _ _ (by omega), v4]
      · have e : ∀ c, c ≠ 38 → c ≠ 69 → c ≠ 54 → hb_up (hb_up (hb_up σ 38 k (nI j)) 54 0 0) 69 k (nI j) c = σ c := fun c q1 q2 q3 => by rw [um_c _ _ _ q2, um_c _ _ _ q3, um_c _ _ _ q1]
        have e54 : ∀ i, i ≠ 0 → hb_up (hb_up (hb_up σ 38 k (nI j)) 54 0 0) 69 k (nI j) 54 i = σ 54 i := fun i q => by rw [um_c _ _ _ (by omega), um_i _ _ _ q, um_c _ _ _ (by omega)]
        refine J0_gen hJ.1 (fun c hc => e c (by omega) (by omega) (by omega)) (by rw [e 0 (by omega) (by omega) (by omega)]) (fun i hi => e54 i (by omega)) ?_ ?_ ?_
        · rw [e 0 (by omega) (by omega) (by omega), e54 34 (by omega)]; exact jW_b w
        · rw [e 37 (by omega) (by omega) (by omega), e 68 (by omega) (by omega) (by omega)]; exact jW_l w
        · intro q hq
          rw [um_at, um_c _ _ _ (show (38 : Nat) ≠ 69 by omega), um_c _ _ _ (show (38 : Nat) ≠ 54 by omega), um_at, um_c _ _ _ (show (69 : Nat) ≠ 54 by omega), um_c _ _ _ (show (69 : Nat) ≠ 38 by omega)]
          by_cases hqk : q = k
          · rw [if_pos hqk, if_pos hqk]; exact ⟨j, by omega, by omega, rfl, rfl⟩
          · rw [if_neg hqk, if_neg hqk]; exact h2 q hq
      · exact jR_gen (fun c hc => by rw [um_c _ _ _ (by omega), um_c _ _ _ (by omega), um_c _ _ _ (by omega)]) h7
    · refine Ok2.rd hJ (r := -1000001) ?_ ?_
      · rw [v86, e86_0, s110n _ _ 4 q_4 (by omega), hb_ci_s, hx, hbb_t, if_neg (by decide)]
        by_cases g1 : y.toInt < 1
        · rw [if_pos (by rw [c1]; exact g1)]
        · rw [if_neg (by rw [c1]; exact g1), if_neg (by rw [c2]; omega)]
      · rw [v139, e139_0, s137, hb_ci_s, hx, hbb_t, if_neg (by decide), s112, hb_ci_s, s_99, decide_eq_false hy]; rfl
/-- like -/
theorem o_like {n : Nat} {σ : hbM} (hJ : J n σ) (x y : Int32) : Ok2 n 85 138 [.int x, .int y] σ := by
  obtain ⟨⟨⟨F, B, G, w⟩, h2, h3, h4, h5, h6⟩, h7⟩ := id hJ
  cases hx : hb_in x 4 with
  | false =>
    refine Ok2.rd hJ (r := -1000001) ?_ ?_
    · rw [v85, e85_0, s110n _ _ 4 q_4 (by omega), hb_ci_s, hx]; rfl
    · rw [v138, e138_0, s135, hb_ci_s, hx]; rfl
  | true =>
    obtain ⟨k, hk, rfl⟩ := q_in_of hx
    have set : ∀ z : Int32, ((y = hbNO ∧ z = -1) ∨ ∃ w, w < 4 ∧ y = nI w ∧ z = nI w) → J (n + 1) (hb_up (hb_up (hb_up σ 37 k y) 54 0 0) 68 k z) := by
      intro z hz
      have e : ∀ c, c ≠ 37 → c ≠ 68 → c ≠ 54 → hb_up (hb_up (hb_up σ 37 k y) 54 0 0) 68 k z c = σ c := fun c q1 q2 q3 => by rw [um_c _ _ _ q2, um_c _ _ _ q3, um_c _ _ _ q1]
      have e54 : ∀ i, i ≠ 0 → hb_up (hb_up (hb_up σ 37 k y) 54 0 0) 68 k z 54 i = σ 54 i := fun i q => by rw [um_c _ _ _ (by omega), um_i _ _ _ q, um_c _ _ _ (by omega)]
      refine ⟨J0_gen hJ.1 (fun c hc => e c (by omega) (by omega) (by omega)) (by rw [e 0 (by omega) (by omega) (by omega)]) (fun i hi => e54 i (by omega)) ?_ ?_ ?_, jR_gen (fun c hc => e c (by omega) (by omega) (by omega)) h7⟩
      · rw [e 0 (by omega) (by omega) (by omega), e54 34 (by omega)]; exact jW_b w
      · intro q hq
        rw [um_at, um_c _ _ _ (show (37 : Nat) ≠ 68 by omega), um_c _ _ _ (show (37 : Nat) ≠ 54 by omega), um_at, um_c _ _ _ (show (68 : Nat) ≠ 54 by omega), um_c _ _ _ (show (68 : Nat) ≠ 37 by omega)]
        by_cases hqk : q = k
        · rw [if_pos hqk, if_pos hqk]; exact hz
        · rw [if_neg hqk, if_neg hqk]; exact jW_l w q hq
      · unfold jP
        rw [e 38 (by omega) (by omega) (by omega), e 69 (by omega) (by omega) (by omega)]; exact h2
    by_cases hy : y = hbNO
    · have hne : ¬ nI k = y := fun q => by rw [hy, q_no (by omega)] at q; exact q
      refine ⟨1, hb_up σ 37 k y, hb_up (hb_up (hb_up σ 37 k y) 54 0 0) 68 k (-1), ?_, ?_, set (-1) (Or.inl ⟨hy, rfl⟩)⟩
      · rw [v85, e85_0, s110n _ _ 4 q_4 (by omega), hb_ci_s, hx, hbb_t, if_neg (by decide), if_pos hne, if_pos hy, e85_33, hx, hb_g_t, hb_g_nil, q_cl (by omega)]
      · rw [v138, e138_0, s135, hb_ci_s, hx, hbb_t, if_neg (by decide), if_pos hy, if_pos hne, if_neg (fun q => q hy), hb_g_t, hb_g_nil, q_cl (by omega)]
    · cases hy4 : hb_in y 4 with
      | false =>
        refine Ok2.rd hJ (r := -1000001) ?_ ?_
        · rw [v85, e85_0, s110n _ _ 4 q_4 (by omega), hb_ci_s, hx, hbb_t, if_neg (by decide), if_neg hy, s110n _ _ 4 q_4 (by omega), hb_ci_s, hy4, hbb_f]
          split <;> rfl
        · rw [v138, e138_0, s135, hb_ci_s, hx, hbb_t, if_neg (by decide), if_neg hy, s135, hb_ci_s, hy4, hbb_f, if_pos rfl]
      | true =>
        obtain ⟨j, hj, rfl⟩ := q_in_of hy4
        by_cases hkj : nI k = nI j
        · refine Ok2.rd hJ (r := -1000001) ?_ ?_
          · rw [v85, e85_0, s110n _ _ 4 q_4 (by omega), hb_ci_s, hx, hbb_t, if_neg (by decide), if_neg (fun q => q hkj)]
          · rw [v138, e138_0, s135, hb_ci_s, hx, hbb_t, if_neg (by decide), if_neg hy, s135, hb_ci_s, hy4, hbb_t, if_neg (by decide), if_neg (fun q => q hkj)]
        · refine ⟨1, hb_up σ 37 k (nI j), hb_up (hb_up (hb_up σ 37 k (nI j)) 54 0 0) 68 k (nI j), ?_, ?_, set (nI j) (Or.inr ⟨j, hj, rfl, rfl⟩)⟩
          · rw [v85, e85_0, s110n _ _ 4 q_4 (by omega), hb_ci_s, hx, hbb_t, if_neg (by decide), if_pos hkj, if_neg hy, s110n _ _ 4 q_4 (by omega), hb_ci_s, hy4, hbb_t, if_pos (by decide), e85_33, hx, hb_g_t, hb_g_nil, q_cl (by omega)]
          · rw [v138, e138_0, s135, hb_ci_s, hx, hbb_t, if_neg (by decide), if_neg hy, s135, hb_ci_s, hy4, hbb_t, if_neg (by decide), if_pos hkj, if_pos hy, hb_g_t, hb_g_nil, q_cl (by omega)]
/-- bar -/
theorem o_bar {n : Nat} {σ : hbM} (hJ : J n σ) (x y z : Int32) : Ok2 n 87 140 [.int x, .int y, .int z] σ := by
  obtain ⟨⟨⟨F, B, G, w⟩, h2, h3, h4, h5, h6⟩, h7⟩ := id hJ
  have ek : ∀ (u : Int32) (s : hbM), hb_ev hbSH 112 [.long u.toInt64, .long 0, .long 1] s = some (some (.int (hbb (hb_in u 2))), s) := fun u s => by rw [s112, q_long u 2 (by decide)]
  cases hx : hb_in x 4 with
  | false =>
    refine Ok2.rd hJ (r := -1000001) ?_ ?_
    · rw [v87, e87_0, s110n _ _ 4 q_4 (by omega), hb_ci_s, hx]; rfl
    · rw [v140, e140_0, s135, hb_ci_s, hx]; rfl
  | true =>
    cases hy : hb_in y 4 with
    | false =>
      refine Ok2.rd hJ (r := -1000001) ?_ ?_
      · rw [v87, e87_0, s110n _ _ 4 q_4 (by omega), hb_ci_s, hx, hbb_t, if_neg (by decide), s110n _ _ 4 q_4 (by omega), hb_ci_s, hy]; rfl
      · rw [v140, e140_0, s135, hb_ci_s, hx, hbb_t, if_neg (by decide), s135, hb_ci_s, hy]; rfl
    | true =>
      by_cases hxy : x = y
      · refine Ok2.rd hJ (r := -1000001) ?_ ?_
        · rw [v87, e87_0, s110n _ _ 4 q_4 (by omega), hb_ci_s, hx, hbb_t, if_neg (by decide), s110n _ _ 4 q_4 (by omega), hb_ci_s, hy, hbb_t, if_neg (by decide), if_pos hxy]
        · rw [v140, e140_0, s135, hb_ci_s, hx, hbb_t, if_neg (by decide), s135, hb_ci_s, hy, hbb_t, if_neg (by decide), if_pos hxy]
      · cases hz : hb_in z 2 with
        | false =>
          refine Ok2.rd hJ (r := -1000001) ?_ ?_
          · rw [v87, e87_0, s110n _ _ 4 q_4 (by omega), hb_ci_s, hx, hbb_t, if_neg (by decide), s110n _ _ 4 q_4 (by omega), hb_ci_s, hy, hbb_t, if_neg (by decide), if_neg hxy, s110n _ _ 2 q_2 (by omega), hb_ci_s, hz]; rfl
          · rw [v140, e140_0, s135, hb_ci_s, hx, hbb_t, if_neg (by decide), s135, hb_ci_s, hy, hbb_t, if_neg (by decide), if_neg hxy, ek, hb_ci_s, hz]; rfl
        | true =>
          obtain ⟨u, hu, rfl⟩ := q_in_of hx
          obtain ⟨v, hv, rfl⟩ := q_in_of hy
          obtain ⟨q, hq, rfl⟩ := q_in_of hz
          obtain ⟨b, b1, b2, b3⟩ := jW_b w
          have e4 : (4 : Int32) * nI u + nI v = nI (4 * u + v) := by rw [q_4, q_mul, q_add]
          have hp : 2 ^ (4 * u + v) ≤ 32768 := Nat.pow_le_pow_right (n := 2) (by omega) (show 4 * u + v ≤ 15 by omega)
          have hq2 : q * 2 ^ (4 * u + v) < 65536 := by
            rcases (show q = 0 ∨ q = 1 by omega) with rfl | rfl <;> omega
          have ev : (nI b &&& (((1 : Int32) <<< (nI (4 * u + v) &&& 31)) ^^^ (-1 : Int32))) ||| (nI q <<< (nI (4 * u + v) &&& 31)) = nI ((b &&& (2 ^ (4 * u + v) ^^^ 4294967295)) ||| q * 2 ^ (4 * u + v)) := by
            rw [q_m1, q_1, q_shl (by omega) (by omega), q_shl (by omega) (by omega), Nat.one_mul, q_xor, q_and, q_or]
          have hlt : (b &&& (2 ^ (4 * u + v) ^^^ 4294967295)) ||| q * 2 ^ (4 * u + v) < 65536 :=
            Nat.or_lt_two_pow (n := 16) (Nat.lt_of_le_of_lt Nat.and_le_left b1) hq2
          generalize ((b &&& (2 ^ (4 * u + v) ^^^ 4294967295)) ||| q * 2 ^ (4 * u + v)) = nb at ev hlt
          refine ⟨(nI b >>> (nI (4 * u + v) &&& 31)) &&& (1 : Int32), hb_up σ 0 10 (nI nb), hb_up (hb_up (hb_up σ 0 10 (nI nb)) 54 0 0) 54 34 (nI nb), ?_, ?_, ?_⟩
          · rw [v87, e87_0, s110n _ _ 4 q_4 (by omega), hb_ci_s, hx, hbb_t, if_neg (by decide), s110n _ _ 4 q_4 (by omega), hb_ci_s, hy, hbb_t, if_neg (by decide), if_neg hxy, s110n _ _ 2 q_2 (by omega), hb_ci_s, hz, hbb_t, if_pos (by decide), b2, e4, ev]
          · rw [v140, e140_0, s135, hb_ci_s, hx, hbb_t, if_neg (by decide), s135, hb_ci_s, hy, hbb_t, if_neg (by decide), if_neg hxy, ek, hb_ci_s, hz, hbb_t, if_pos (by decide), um_i _ _ _ (show (34 : Nat) ≠ 0 by omega), um_c _ _ _ (show (54 : Nat) ≠ 0 by omega), b3, e4, ev]
          · have e : ∀ c, c ≠ 0 → c ≠ 54 → hb_up (hb_up (hb_up σ 0 10 (nI nb)) 54 0 0) 54 34 (nI nb) c = σ c := fun c q1 q2 => by rw [um_c _ _ _ q2, um_c _ _ _ q2, um_c _ _ _ q1]
            have e54 : ∀ i, i ≠ 0 → i ≠ 34 → hb_up (hb_up (hb_up σ 0 10 (nI nb)) 54 0 0) 54 34 (nI nb) 54 i = σ 54 i := fun i q1 q2 => by rw [um_i _ _ _ q2, um_i _ _ _ q1, um_c _ _ _ (by omega)]
            refine ⟨J0_gen hJ.1 (fun c hc => e c (by omega) (by omega)) (by rw [um_c _ _ _ (by omega), um_c _ _ _ (by omega), um_i _ _ _ (by omega)]) (fun i hi => e54 i (by omega) (by omega)) ?_ ?_ ?_, jR_gen (fun c hc => e c (by omega) (by omega)) h7⟩
            · exact ⟨nb, hlt, by rw [um_c _ _ _ (by omega), um_c _ _ _ (by omega), um_s], um_s _ _ _ _⟩
            · rw [e 37 (by omega) (by omega), e 68 (by omega) (by omega)]; exact jW_l w
            · unfold jP
              rw [e 38 (by omega) (by omega), e 69 (by omega) (by omega)]; exact h2
