/-! through: the reference, the call -/
theorem s163_c72 (x1 x2 x3 x4 : Int32) : ∀ (n i : Nat) (σ : hbM), i + n = 17408 → ∃ σ', hb_run hbSH 163 (85, [.ref 54, .int x1, .int x2, .int x3, .int x4, .int (nI i), .null, .null], [], σ) = hb_run hbSH 163 (110, [.ref 54, .int x1, .int x2, .int x3, .int x4, .int 0, .null, .null], [], σ') ∧ (∀ c, c ≠ 72 → σ' c = σ c) ∧ (∀ k, i ≤ k → k < 17408 → σ' 72 k = 0) ∧ ∀ k, k < i → σ' 72 k = σ 72 k := by
  intro n
  induction n with
  | zero =>
    intro i σ hi
    obtain rfl : i = 17408 := by omega
    exact ⟨σ, by rw [e163_85, if_pos (by decide)], fun _ _ => rfl, fun k h1 h2 => by omega, fun _ _ => rfl⟩
  | succ n ih =>
    intro i σ hi
    obtain ⟨σ', k1, k2, k3, k4⟩ := ih (i + 1) (hb_up σ 72 i 0) (by omega)
    refine ⟨σ', ?_, fun c hc => by rw [k2 c hc, um_c _ _ _ hc], fun k h1 h2 => ?_, fun k hk => ?_⟩
    · rw [e163_85, if_neg (by rw [q_17408, q_le (by omega) (by omega)]; omega), q_inT (by omega) (by omega), hb_g_t, hb_g_nil, nI_1, q_cl (by omega)]
      exact k1
    · by_cases q : k = i
      · rw [k4 k (by omega), q, um_s]
      · exact k3 k (by omega) h2
    · rw [k4 k (by omega), um_i _ _ _ (by omega)]
theorem s163_c73 (x1 x2 x3 x4 : Int32) : ∀ (n i : Nat) (σ : hbM), i + n = 1024 → ∃ σ', hb_run hbSH 163 (159, [.ref 54, .int x1, .int x2, .int x3, .int x4, .int (nI i), .null, .null], [], σ) = hb_run hbSH 163 (184, [.ref 54, .int x1, .int x2, .int x3, .int x4, .int 0, .null, .null], [], σ') ∧ (∀ c, c ≠ 73 → σ' c = σ c) ∧ (∀ k, i ≤ k → k < 1024 → σ' 73 k = 0) ∧ ∀ k, k < i → σ' 73 k = σ 73 k := by
  intro n
  induction n with
  | zero =>
    intro i σ hi
    obtain rfl : i = 1024 := by omega
    exact ⟨σ, by rw [e163_159, if_pos (by decide)], fun _ _ => rfl, fun k h1 h2 => by omega, fun _ _ => rfl⟩
  | succ n ih =>
    intro i σ hi
    obtain ⟨σ', k1, k2, k3, k4⟩ := ih (i + 1) (hb_up σ 73 i 0) (by omega)
    refine ⟨σ', ?_, fun c hc => by rw [k2 c hc, um_c _ _ _ hc], fun k h1 h2 => ?_, fun k hk => ?_⟩
    · rw [e163_159, if_neg (by rw [q_1024, q_le (by omega) (by omega)]; omega), q_inT (by omega) (by omega), show hb_01 0 = true from rfl, hb_g_t, hb_g_t, hb_g_nil, nI_1, q_cl (by omega)]
      exact k1
    · by_cases q : k = i
      · rw [k4 k (by omega), q, um_s]
      · exact k3 k (by omega) h2
    · rw [k4 k (by omega), um_i _ _ _ (by omega)]
theorem mS73 {σ σ' : hbM} (h : ∀ c, c ≠ 73 → σ' c = σ c) : mS σ σ' := ⟨fun c _ h2 => h c (by omega), fun i _ _ _ _ => by rw [h 54 (by omega)]⟩
theorem s163_h {P : hbGP} {F : hbF} (hP : gOk P) {x1 x2 x3 : Int32} {n : Nat} {row : Nat → Nat} {C : Nat → Bool} : ∀ (f i : Nat) (σ : hbM), i + f = n → mR σ P F → mQ σ n row C → mE σ P →
    ∃ σ', hb_run hbSH 163 (110, [.ref 54, .int x1, .int x2, .int x3, .int (nI (cnt (fun k => bP (hang (gOn P) (row k % 17408))) i)), .int (nI i), .null, .null], [], σ) = some (some (.int (nI (cnt (fun k => bP (hang (gOn P) (row k % 17408))) n))), σ') ∧ mS σ σ' := by
  intro f
  induction f with
  | zero =>
    intro i σ hi hR hQ hE
    have hn : n ≤ 52224 := by rw [hQ.2.2.2.2]; exact cnt_le _ _
    obtain rfl : i = n := by omega
    exact ⟨σ, by rw [e163_110, hQ.1, if_pos (by rw [q_le (by omega) (by omega)]; omega)], mS.rf σ⟩
  | succ f ih =>
    intro i σ hi hR hQ hE
    have hn : n ≤ 52224 := by rw [hQ.2.2.2.2]; exact cnt_le _ _
    obtain ⟨a1, a2, a3⟩ := hQ.2.1 i (by omega)
    have d1 : decide (¬ (17408 : Int32) = 0) = true := by decide
    have eq1 : nI (row i) / (17408 : Int32) = nI (row i / 17408) := q_div (d := 17408) (by omega) (by omega) (by omega)
    have eq2 : nI (row i) - nI (row i / 17408) * (17408 : Int32) = nI (row i % 17408) := q_rem (d := 17408) (by omega) (by omega) (by omega)
    obtain ⟨σ1, k1, k2, k3⟩ := s162 hR hP hE (p := row i % 17408) (by omega)
    obtain ⟨σ2, m1, m2⟩ := ih (i + 1) σ1 (by omega) (mS_mR (mS72 k3) hR) (mQ_frame (by rw [k3 54 (by omega)]) (k3 70 (by omega)) (k3 71 (by omega)) hQ) k2
    refine ⟨σ2, ?_, (mS72 k3).tr m2⟩
    rw [e163_110, hQ.1, if_neg (by rw [q_le (by omega) (by omega)]; omega), q_inT (by omega) (by omega), d1, hb_g_t, hb_g_t, hb_g_nil, q_cl (by omega), a1, eq1, eq2, k1, hb_ci_s, nI_1]
    rw [cnt_s] at m1
    cases hb : bP (hang (gOn P) (row i % 17408)) with
    | true =>
      rw [hb] at m1
      rw [hbb_t, if_neg (by decide), nI_1]; exact m1
    | false =>
      rw [hb] at m1
      rw [hbb_f, if_pos rfl, show ∀ a, nI a + (0 : Int32) = nI (a + 0) from fun a => by rw [q_0, q_add]]; exact m1
theorem s163_e {P : hbGP} {F : hbF} {B G : hbL} (hP : gOk P) {x1 x2 : Int32} {w n sl st : Nat} {row : Nat → Nat} (hw : w = 2 ∨ w = 3) (hlt : ∀ x, tC P sl st x = true → x < 52224) : ∀ (f i : Nat) (σ : hbM) (D : Nat → Bool) (v6 v7 : Value), i + f = n → mR σ P F → mL σ B 9 0 → mL σ G 10 4 → mQ σ n row (tC P sl st) → (∀ s, s < 1024 → σ 73 s = hbb (D s)) → (∀ s, D s = true ↔ ∃ k, k < i ∧ gOn P (row k % 17408) = none ∧ row k % 1024 = s) →
    ∃ σ', hb_run hbSH 163 (184, [.ref 54, .int x1, .int x2, .int (nI w), .int (nI (cnt (fun s => D s && (decide (w = 2) || wGood B G s)) 1024)), .int (nI i), v6, v7], [], σ) = some (some (.int (nI (cnt (fun s => tEnd P sl st s && (decide (w = 2) || wGood B G s)) 1024))), σ') ∧ mS σ σ' := by
  intro f
  induction f with
  | zero =>
    intro i σ D v6 v7 hi hR hB hG hQ h73 hD
    have hn : n ≤ 52224 := by rw [hQ.2.2.2.2]; exact cnt_le _ _
    obtain rfl : i = n := by omega
    have e : D = tEnd P sl st := by
      funext s
      unfold tEnd
      rw [bP_eq (b := D s)]
      rw [hD s]
      constructor
      · rintro ⟨k, hk, h1, h2⟩
        exact ⟨row k, (hQ.2.1 k hk).2.2, h1, h2⟩
      · rintro ⟨x, h0, h1, h2⟩
        obtain ⟨k, hk, hr⟩ := hQ.2.2.2.1 x (hlt x h0) h0
        exact ⟨k, hk, by rw [hr]; exact h1, by rw [hr]; exact h2⟩
    refine ⟨σ, ?_, mS.rf σ⟩
    rw [e163_184, hQ.1, if_pos (by rw [q_le (by omega) (by omega)]; omega), e]
  | succ f ih =>
    intro i σ D v6 v7 hi hR hB hG hQ h73 hD
    have hn : n ≤ 52224 := by rw [hQ.2.2.2.2]; exact cnt_le _ _
    obtain ⟨a1, a2, a3⟩ := hQ.2.1 i (by omega)
    generalize hx : row i = x at a1 a2 a3
    have d1 : decide (¬ (17408 : Int32) = 0) = true := by decide
    have d2 : decide (¬ (1024 : Int32) = 0) = true := by decide
    have eq1 : nI x / (17408 : Int32) = nI (x / 17408) := q_div (d := 17408) (by omega) (by omega) (by omega)
    have eq2 : nI x - nI (x / 17408) * (17408 : Int32) = nI (x % 17408) := q_rem (d := 17408) (by omega) (by omega) (by omega)
    have eq3 : nI (x % 17408) / (1024 : Int32) = nI (x % 17408 / 1024) := q_div (d := 1024) (by omega) (by omega) (by omega)
    have eq4 : nI (x % 17408) - nI (x % 17408 / 1024) * (1024 : Int32) = nI (x % 1024) := by
      rw [show x % 1024 = x % 17408 % 1024 by omega]
      exact q_rem (d := 1024) (by omega) (by omega) (by omega)
    have hoff := gOn_none (P := P) hP.2.2 (x % 17408)
    have hin : hb_in (nI (x % 1024)) 1024 = true := q_inT (by omega) (by omega)
    rw [e163_184, hQ.1, if_neg (by rw [q_le (by omega) (by omega)]; omega), q_inT (by omega) (by omega), d1, d2, hb_g_t, hb_g_t, hb_g_t, hb_g_t, hb_g_nil, q_cl (by omega), a1, eq1, eq2, eq3, eq4, s151 hR (by omega), hb_ci_s, nI_1]
    cases hg : gOn P (x % 17408) with
    | some q =>
      have hne : x % 17408 / 1024 < P.1 ∧ P.2.1 (x % 17408 / 1024) ≠ 5 := Classical.byContradiction fun z => by
        have := hoff.mpr z; rw [hg] at this; cases this
      rw [decide_eq_false (fun z => z hne), hbb_f, if_pos rfl]
      exact ih (i + 1) σ D _ _ (by omega) hR hB hG hQ h73 (fun s => by
        rw [hD s]
        constructor
        · rintro ⟨k, hk, h⟩; exact ⟨k, by omega, h⟩
        · rintro ⟨k, hk, h⟩
          refine ⟨k, ?_, h⟩
          rcases Nat.lt_succ_iff_lt_or_eq.mp hk with z | z
          · exact z
          · rw [z, hx, hg] at h; cases h.1)
    | none =>
      rw [decide_eq_true (hoff.mp hg), hbb_t, if_neg (by decide), hin, hb_g_t, hb_g_nil, q_cl (by omega), h73 _ (by omega)]
      cases hDs : D (x % 1024) with
      | true =>
        rw [hbb_t, if_pos (by decide)]
        exact ih (i + 1) σ D _ _ (by omega) hR hB hG hQ h73 (fun s => by
          rw [hD s]
          constructor
          · rintro ⟨k, hk, h⟩; exact ⟨k, by omega, h⟩
          · rintro ⟨k, hk, h⟩
            rcases Nat.lt_succ_iff_lt_or_eq.mp hk with z | z
            · exact ⟨k, z, h⟩
            · rw [z, hx] at h
              rw [← hD s, ← h.2]; exact hDs)
      | false =>
        have hcs := cnt_set (f := fun s => D s && (decide (w = 2) || wGood B G s)) (p := x % 1024) (by show (D (x % 1024) && _) = false; rw [hDs]; rfl) 1024 (by omega)
        have fr : ∀ c, c ≠ 73 → hb_up σ 73 (x % 1024) 1 c = σ c := fun c h => um_c _ _ _ h
        have m1 := mS73 fr
        have hQ1 := mQ_frame (σ' := hb_up σ 73 (x % 1024) 1) (by rw [fr 54 (by omega)]) (fr 70 (by omega)) (fr 71 (by omega)) hQ
        obtain ⟨σ2, r1, r2⟩ := ih (i + 1) (hb_up σ 73 (x % 1024) 1) (fun s => D s || decide (s = x % 1024)) (.int (nI (x % 17408))) (.int (nI (x % 1024))) (by omega) (mS_mR m1 hR) (mS_mL m1 (Or.inl rfl) hB) (mS_mL m1 (Or.inr rfl) hG) hQ1 (fun s hs => by
          rw [um_at]
          by_cases z : s = x % 1024
          · rw [if_pos z, decide_eq_true z, Bool.or_true]; rfl
          · rw [if_neg z, decide_eq_false z, Bool.or_false]; exact h73 s hs) (fun s => by
          rw [Bool.or_eq_true, decide_eq_true_eq, hD s]
          constructor
          · rintro (⟨k, hk, h⟩ | h)
            · exact ⟨k, by omega, h⟩
            · exact ⟨i, by omega, by rw [hx]; exact hg, by rw [hx, h]⟩
          · rintro ⟨k, hk, h⟩
            rcases Nat.lt_succ_iff_lt_or_eq.mp hk with z | z
            · exact Or.inl ⟨k, z, h⟩
            · rw [z, hx] at h
              exact Or.inr h.2.symm)
        have hce : cnt (fun s => (D s || decide (s = x % 1024)) && (decide (w = 2) || wGood B G s)) 1024 = cnt (fun s => D s && (decide (w = 2) || wGood B G s)) 1024 + (if (decide (w = 2) || wGood B G (x % 1024)) = true then 1 else 0) := by
          cases hb : (decide (w = 2) || wGood B G (x % 1024)) with
          | true =>
            rw [if_pos rfl, ← hcs]
            apply cnt_eq
            intro s _
            by_cases z : s = x % 1024
            · simp only [z, hb]; simp
            · simp [z]
          | false =>
            rw [if_neg (fun z => by cases z), Nat.add_zero]
            apply cnt_eq
            intro s _
            by_cases z : s = x % 1024
            · simp only [z, hb]; simp
            · simp [z]
        rw [hce] at r1
        refine ⟨σ2, ?_, m1.tr r2⟩
        rw [hbb_f, if_neg (fun z => z rfl), show hb_01 1 = true from rfl, hb_g_t, hb_g_t, hb_g_nil]
        rcases hw with rfl | rfl
        · rw [if_pos (by decide), nI_1]
          exact r1
        · rw [if_neg (by decide), s147 (mS_mL m1 (Or.inl rfl) hB) (mS_mL m1 (Or.inr rfl) hG) (by omega), hb_ci_s]
          rw [show decide (3 = 2) = false from rfl, Bool.false_or] at r1
          cases hb : wGood B G (x % 1024) with
          | true =>
            rw [hb] at r1
            rw [hbb_t, if_neg (by decide), nI_1]; exact r1
          | false =>
            rw [hb] at r1
            rw [hbb_f, if_pos rfl, show ∀ a, nI a + (0 : Int32) = nI (a + 0) from fun a => by rw [q_0, q_add]]; exact r1
/-- through -/
theorem s163 {σ : hbM} {P : hbGP} {F : hbF} {B G : hbL} (hR : mR σ P F) (hB : mL σ B 9 0) (hG : mL σ G 10 4) (hP : gOk P) (x y z : Int32) :
    ∃ σ', hb_ev hbSH 163 [.ref 54, .int x, .int y, .int z] σ = some (some (.int (if hb_in x 1024 = true ∧ hb_in y 3 = true ∧ hb_in z 5 = true then aThr P (fun s => wAny B s B.1) (wGood B G) x.toNatClampNeg y.toNatClampNeg z.toNatClampNeg else -1000001)), σ') ∧ mS σ σ' := by
  have m0 := mS_t σ
  rw [v163, e163_0, s136, hb_ci_s]
  cases hx : hb_in x 1024 with
  | false => exact ⟨_, by rw [hbb_f, if_pos rfl, if_neg (fun q => by cases q.1)], m0⟩
  | true =>
    rw [hbb_t, if_neg (by decide), s112, q_long y 3 (by decide), hb_ci_s]
    cases hy : hb_in y 3 with
    | false => exact ⟨_, by rw [hbb_f, if_pos rfl, if_neg (fun q => by cases q.2.1)], m0⟩
    | true =>
      rw [hbb_t, if_neg (by decide), s112, q_long z 5 (by decide), hb_ci_s]
      cases hz : hb_in z 5 with
      | false => exact ⟨_, by rw [hbb_f, if_neg (fun q => q rfl), if_neg (fun q => by cases q.2.2)], m0⟩
      | true =>
        obtain ⟨st, hs, rfl⟩ := q_in_of hx
        obtain ⟨sl, hsl, rfl⟩ := q_in_of hy
        obtain ⟨w, hw, rfl⟩ := q_in_of hz
        obtain ⟨σ1, n, row, k1, k2, k3⟩ := s160 (mS_mR m0 hR) hP (sl := sl) (st := st) (by omega) hs
        have m1 := m0.tr k2
        have hlt : ∀ x, tC P sl st x = true → x < 52224 := fun x hx => by
          have := Rch_lt hP (show st < 17408 by omega) (bP_iff.mp hx)
          omega
        rw [hbb_t, if_pos (by decide), k1, hb_cv_s, q_cl (by omega), q_cl (by omega), q_cl (by omega), if_pos (show (true = true ∧ true = true ∧ true = true) from ⟨rfl, rfl, rfl⟩)]
        rcases (show w = 0 ∨ w = 1 ∨ w = 2 ∨ w = 3 ∨ w = 4 by omega) with rfl | rfl | rfl | rfl | rfl
        · refine ⟨σ1, ?_, m1⟩
          rw [if_neg (by decide), if_neg (by decide), k3.1]
          unfold aThr
          rw [if_pos rfl, k3.2.2.2.2]
        · refine ⟨σ1, ?_, m1⟩
          rw [if_neg (by decide), if_pos (by decide), s161 (mS_mL m1 (Or.inl rfl) hB) k3 hlt, hb_ci_s]
          have ea : aThr P (fun s => wAny B s B.1) (wGood B G) st sl 1 = hbb (tHarm P (fun s => wAny B s B.1) sl st) := by
            unfold aThr
            rw [if_neg (by omega), if_pos rfl]
          rw [ea]
          cases tHarm P (fun s => wAny B s B.1) sl st <;> rfl
        · obtain ⟨σ2, c1, c2, c3, c4⟩ := s163_c73 (nI st) (nI sl) (nI 2) 0 1024 0 σ1 (by omega)
          have m2 := m1.tr (mS73 c2)
          obtain ⟨σ3, r1, r2⟩ := s163_e (F := F) (B := B) (G := G) hP (x1 := nI st) (x2 := nI sl) (w := 2) (Or.inl rfl) hlt n 0 σ2 (fun _ => false) .null .null (by omega) (mS_mR m2 hR) (mS_mL m2 (Or.inl rfl) hB) (mS_mL m2 (Or.inr rfl) hG) (mQ_frame (by rw [c2 54 (by omega)]) (c2 70 (by omega)) (c2 71 (by omega)) k3) (fun s hs => c3 s (by omega) hs) (fun s => ⟨fun z => (by cases z), fun ⟨k, hk, _⟩ => by omega⟩)
          refine ⟨σ3, ?_, m2.tr r2⟩
          rw [if_pos (by decide), if_pos (by decide)]
          rw [show nI 0 = (0 : Int32) from rfl] at c1
          rw [c1]
          rw [cnt_0 (fun s => (false && (decide (2 = 2) || wGood B G s))) 1024 (fun _ _ => rfl), show nI 0 = (0 : Int32) from rfl] at r1
          rw [r1]
          unfold aThr
          rw [if_neg (by omega), if_neg (by omega), if_pos rfl]
          exact q_rs _ (congrArg nI (cnt_eq _ (fun s _ => by simp)))
        · obtain ⟨σ2, c1, c2, c3, c4⟩ := s163_c73 (nI st) (nI sl) (nI 3) 0 1024 0 σ1 (by omega)
          have m2 := m1.tr (mS73 c2)
          obtain ⟨σ3, r1, r2⟩ := s163_e (F := F) (B := B) (G := G) hP (x1 := nI st) (x2 := nI sl) (w := 3) (Or.inr rfl) hlt n 0 σ2 (fun _ => false) .null .null (by omega) (mS_mR m2 hR) (mS_mL m2 (Or.inl rfl) hB) (mS_mL m2 (Or.inr rfl) hG) (mQ_frame (by rw [c2 54 (by omega)]) (c2 70 (by omega)) (c2 71 (by omega)) k3) (fun s hs => c3 s (by omega) hs) (fun s => ⟨fun z => (by cases z), fun ⟨k, hk, _⟩ => by omega⟩)
          refine ⟨σ3, ?_, m2.tr r2⟩
          rw [if_pos (by decide), if_pos (by decide)]
          rw [show nI 0 = (0 : Int32) from rfl] at c1
          rw [c1]
          rw [cnt_0 (fun s => (false && (decide (3 = 2) || wGood B G s))) 1024 (fun _ _ => rfl), show nI 0 = (0 : Int32) from rfl] at r1
          rw [r1]
          unfold aThr
          rw [if_neg (by omega), if_neg (by omega), if_neg (by omega), if_pos rfl]
          exact q_rs _ (congrArg nI (cnt_eq _ (fun s _ => by simp)))
        · obtain ⟨σ2, c1, c2, c3, c4⟩ := s163_c72 (nI st) (nI sl) (nI 4) 0 17408 0 σ1 (by omega)
          have m2 := m1.tr (mS72 c2)
          have hQ2 := mQ_frame (σ' := σ2) (by rw [c2 54 (by omega)]) (c2 70 (by omega)) (c2 71 (by omega)) k3
          obtain ⟨σ3, r1, r2⟩ := s163_h (F := F) hP (x1 := nI st) (x2 := nI sl) (x3 := nI 4) n 0 σ2 (by omega) (mS_mR m2 hR) hQ2 (fun p hp => ⟨0, c3 p (by omega) hp, Or.inl rfl⟩)
          refine ⟨σ3, ?_, m2.tr r2⟩
          rw [if_pos (by decide), if_neg (by decide)]
          rw [show nI 0 = (0 : Int32) from rfl] at c1
          rw [c1]
          rw [show cnt (fun k => bP (hang (gOn P) (row k % 17408))) 0 = 0 from rfl, show nI 0 = (0 : Int32) from rfl] at r1
          rw [r1]
          unfold aThr
          rw [if_neg (by omega), if_neg (by omega), if_neg (by omega), if_neg (by omega)]
          exact q_rs _ (congrArg nI (cnt_row (row := row) k3.2.2.2.1 k3.2.2.2.2 (fun x => bP (hang (gOn P) (x % 17408)))))
