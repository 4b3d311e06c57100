/-! copy -/
theorem s117_up {s t a b m : Nat} (hs : s < 8) (ht : t < 8) (ham : a + m ≤ 40) (hbm : b + m ≤ 40) (g : Nat → Int32) (hv : 40 * t + b ≤ 40 * s + a ∨ 40 * s + a + m ≤ 40 * t + b) : ∀ (j k : Nat) (σ : hbM) (v8 : Value), k + j = m → (∀ i, σ 57 i = if 40 * t + b ≤ i ∧ i < 40 * t + b + k then g (40 * s + a + (i - (40 * t + b))) else g i) →
    ∃ σ', hb_run hbSH 117 (143, [.ref 54, .int (nI s), .int (nI a), .int (nI t), .int (nI b), .int (nI m), .int 1, .int (nI k), v8], [], σ) = some (some (.int (nI m)), σ') ∧ (∀ c, c ≠ 57 → σ' c = σ c) ∧ ∀ i, σ' 57 i = if 40 * t + b ≤ i ∧ i < 40 * t + b + m then g (40 * s + a + (i - (40 * t + b))) else g i := by
  intro j
  induction j with
  | zero =>
    intro k σ v8 hk h
    obtain rfl : k = m := by omega
    exact ⟨σ, by rw [e117_143, if_pos (by rw [q_le (by omega) (by omega)]; omega)], fun c _ => rfl, h⟩
  | succ j ih =>
    intro k σ v8 hk h
    have e1 : (40 : Int32) * nI s + nI a + nI k = nI (40 * s + a + k) := by rw [q_40, q_mul, q_add, q_add]
    have e2 : (40 : Int32) * nI t + nI b + nI k = nI (40 * t + b + k) := by rw [q_40, q_mul, q_add, q_add]
    obtain ⟨σ', k1, k2, k3⟩ := ih (k + 1) (hb_up σ 57 (40 * t + b + k) (σ 57 (40 * s + a + k))) (.int (nI k)) (by omega) (fun i => by
      rw [um_at, h (40 * s + a + k), if_neg (show ¬ (40 * t + b ≤ 40 * s + a + k ∧ 40 * s + a + k < 40 * t + b + k) by omega)]
      by_cases q : i = 40 * t + b + k
      · rw [if_pos q, if_pos (by omega), q, show 40 * t + b + k - (40 * t + b) = k by omega]
      · rw [if_neg q, h i]
        by_cases q2 : 40 * t + b ≤ i ∧ i < 40 * t + b + k
        · rw [if_pos q2, if_pos (by omega)]
        · rw [if_neg q2, if_neg (by omega)])
    refine ⟨σ', ?_, fun c hc => by rw [k2 c hc, um_c _ _ _ hc], k3⟩
    rw [e117_143, if_neg (by rw [q_le (by omega) (by omega)]; omega), if_neg (by decide), e117_167, e1, e2, q_inT (by omega) (by omega), q_inT (by omega) (by omega), hb_g_t, hb_g_t, hb_g_nil, q_cl (by omega), q_cl (by omega), nI_1]
    exact k1
theorem s117_dn {s t a b m : Nat} (hs : s < 8) (ht : t < 8) (ham : a + m ≤ 40) (hbm : b + m ≤ 40) (g : Nat → Int32) (hv : 40 * s + a ≤ 40 * t + b ∨ 40 * t + b + m ≤ 40 * s + a) : ∀ (j k : Nat) (σ : hbM) (v8 : Value), k + j = m → (∀ i, σ 57 i = if 40 * t + b + j ≤ i ∧ i < 40 * t + b + m then g (40 * s + a + (i - (40 * t + b))) else g i) →
    ∃ σ', hb_run hbSH 117 (143, [.ref 54, .int (nI s), .int (nI a), .int (nI t), .int (nI b), .int (nI m), .int 0, .int (nI k), v8], [], σ) = some (some (.int (nI m)), σ') ∧ (∀ c, c ≠ 57 → σ' c = σ c) ∧ ∀ i, σ' 57 i = if 40 * t + b ≤ i ∧ i < 40 * t + b + m then g (40 * s + a + (i - (40 * t + b))) else g i := by
  intro j
  induction j with
  | zero =>
    intro k σ v8 hk h
    obtain rfl : k = m := by omega
    exact ⟨σ, by rw [e117_143, if_pos (by rw [q_le (by omega) (by omega)]; omega)], fun c _ => rfl, h⟩
  | succ j ih =>
    intro k σ v8 hk h
    have e0 : nI m - (1 : Int32) - nI k = nI j := by rw [q_1, q_sub (by omega), q_sub (by omega)]; exact congrArg nI (by omega)
    have e1 : (40 : Int32) * nI s + nI a + nI j = nI (40 * s + a + j) := by rw [q_40, q_mul, q_add, q_add]
    have e2 : (40 : Int32) * nI t + nI b + nI j = nI (40 * t + b + j) := by rw [q_40, q_mul, q_add, q_add]
    obtain ⟨σ', k1, k2, k3⟩ := ih (k + 1) (hb_up σ 57 (40 * t + b + j) (σ 57 (40 * s + a + j))) (.int (nI j)) (by omega) (fun i => by
      rw [um_at, h (40 * s + a + j), if_neg (show ¬ (40 * t + b + (j + 1) ≤ 40 * s + a + j ∧ 40 * s + a + j < 40 * t + b + m) by omega)]
      by_cases q : i = 40 * t + b + j
      · rw [if_pos q, if_pos (by omega), q, show 40 * t + b + j - (40 * t + b) = j by omega]
      · rw [if_neg q, h i]
        by_cases q2 : 40 * t + b + (j + 1) ≤ i ∧ i < 40 * t + b + m
        · rw [if_pos q2, if_pos (by omega)]
        · rw [if_neg q2, if_neg (by omega)])
    refine ⟨σ', ?_, fun c hc => by rw [k2 c hc, um_c _ _ _ hc], k3⟩
    rw [e117_143, if_neg (by rw [q_le (by omega) (by omega)]; omega), if_pos (by decide), e0, e117_167, e1, e2, q_inT (by omega) (by omega), q_inT (by omega) (by omega), hb_g_t, hb_g_t, hb_g_nil, q_cl (by omega), q_cl (by omega), nI_1]
    exact k1
theorem cp_J {n : Nat} {σ ρ : hbM} (hJ : J n σ) {s t a b m : Nat} (hs : s < 8) (ht : t < 8) (ham : a + m ≤ 40) (hbm : b + m ≤ 40) (e : ∀ c, c ≠ 57 → ρ c = hb_up (hb_up (hb_up (hb_cpy σ (23 + s) (23 + t) a b m) 13 9 0) 54 0 0) 54 1 0 c) (e57 : ∀ i, ρ 57 i = if 40 * t + b ≤ i ∧ i < 40 * t + b + m then σ 57 (40 * s + a + (i - (40 * t + b))) else σ 57 i) : J (n + 1) ρ := by
  obtain ⟨_, _, _, _, h5, h6⟩ := hJ.1
  have cc : ∀ c, c ≠ 23 + t → hb_cpy σ (23 + s) (23 + t) a b m c = σ c := fun c q => by unfold hb_cpy; rw [if_neg q]
  have ct : ∀ k, hb_cpy σ (23 + s) (23 + t) a b m (23 + t) k = if b ≤ k ∧ k < b + m then σ (23 + s) (a + (k - b)) else σ (23 + t) k := fun k => by unfold hb_cpy; rw [if_pos rfl]; rfl
  have e1 : ∀ c, c ≠ 57 → c ≠ 54 → c ≠ 13 → c ≠ 23 + t → ρ c = σ c := fun c q1 q2 q3 q4 => by rw [e c q1, um_c _ _ _ q2, um_c _ _ _ q2, um_c _ _ _ q3, cc c q4]
  refine J_sh hJ (fun c q1 q2 q3 q4 q5 => e1 c q5 q2 (by omega) (by omega)) (fun i q1 q2 => ?_) ?_ ?_ ?_ (jS_up h5 (s := t) (fun u hu q => ?_) ?_)
  · rw [e 54 (by omega), um_i _ _ _ q2, um_i _ _ _ q1, um_c _ _ _ (by omega), cc 54 (by omega)]
  · rw [e 13 (by omega), um_c _ _ _ (by omega), um_c _ _ _ (by omega), um_s]
  · rw [e 54 (by omega), um_s]
  · rw [e 13 (by omega), um_c _ _ _ (by omega), um_c _ _ _ (by omega), um_i _ _ _ (by omega), cc 13 (by omega)]
  · refine ⟨e1 _ (by omega) (by omega) (by omega) (by omega), by rw [e1 55 (by omega) (by omega) (by omega) (by omega)], by rw [e1 56 (by omega) (by omega) (by omega) (by omega)], e1 _ (by omega) (by omega) (by omega) (by omega), fun i hi => ?_⟩
    rw [e57, if_neg (by omega)]
  · obtain ⟨a1, a2, a3⟩ := h5 t ht
    rw [e1 (15 + t) (by omega) (by omega) (by omega) (by omega), e1 55 (by omega) (by omega) (by omega) (by omega), e1 56 (by omega) (by omega) (by omega) (by omega)]
    refine ⟨a1, a2, fun k hk => ?_⟩
    rw [e (23 + t) (by omega), um_c _ _ _ (by omega), um_c _ _ _ (by omega), um_c _ _ _ (by omega), ct, e57]
    by_cases q : b ≤ k ∧ k < b + m
    · rw [if_pos q, if_pos (by omega), (h5 s hs).2.2 _ (by omega)]
      exact congrArg (σ 57) (by omega)
    · rw [if_neg q, if_neg (by omega)]; exact a3 k hk
theorem o_copy {n : Nat} {σ : hbM} (hJ : J n σ) (x y u v w : Int32) : Ok2 n 80 117 [.int x, .int y, .int u, .int v, .int w] σ := by
  obtain ⟨_, _, _, _, h5, h6⟩ := hJ.1
  cases hx : hb_in x 8 with
  | false =>
    refine Ok2.rd hJ (r := -1000001) ?_ ?_
    · rw [v80, e80_0g, s108n, hb_ci_s, hx]; rfl
    · rw [v117, e117_0, s114, hb_ci_s, hx]; rfl
  | true =>
    cases hu : hb_in u 8 with
    | false =>
      refine Ok2.rd hJ (r := -1000001) ?_ ?_
      · rw [v80, e80_0g, s108n, hb_ci_s, hx, hbb_t, if_neg (by decide), s108n, hb_ci_s, hu]; rfl
      · rw [v117, e117_0, s114, hb_ci_s, hx, hbb_t, if_neg (by decide), s114, hb_ci_s, hu]; rfl
    | true =>
      obtain ⟨s, hs, rfl⟩ := q_in_of hx
      obtain ⟨t, ht, rfl⟩ := q_in_of hu
      obtain ⟨_, ⟨z, z1, z2, z3⟩, _⟩ := h5 s hs
      obtain ⟨_, ⟨z', z1', z2', z3'⟩, _⟩ := h5 t ht
      rcases sh_t h5 hs with ⟨t1, t2⟩ | ⟨t1, l, l1, l2, l3⟩
      · refine ⟨(-1000010 : Int32) - 1, hb_up σ 13 9 1, _, ?_, ?_, found_J hJ 1⟩
        · rw [v80, e80_0s s hs t ht, s108n, hb_ci_s, hx, hbb_t, if_neg (by decide), s108n, hb_ci_s, hu, hbb_t, if_pos (by decide), hb_g_t, hb_g_t, hb_g_nil, if_pos t1, e80_49s s hs t ht, s105, hb_ci_s]
        · have d2 : hb_up (hb_up σ 13 9 1) 54 0 0 55 s < 0 := by rw [um_c _ _ _ (by omega), um_c _ _ _ (by omega), t2]; decide
          rw [v117, e117_0, s114, hb_ci_s, hx, hbb_t, if_neg (by decide), s114, hb_ci_s, hu, hbb_t, if_pos (by decide), hb_g_t, hb_g_nil, q_cl (by omega), if_pos d2, e117_45, s113, hb_ci_s]
      · have n1 : ¬ nI l < (0 : Int32) := by rw [q_0, q_lt (by omega) (by omega)]; omega
        have t10 : ¬ σ (15 + s) 1 = 0 := by rw [t1]; decide
        rcases sh_t h5 ht with ⟨r1, r2⟩ | ⟨r1, l', l1', l2', l3'⟩
        · refine ⟨(-1000010 : Int32) - 1, hb_up σ 13 9 1, _, ?_, ?_, found_J hJ 1⟩
          · rw [v80, e80_0s s hs t ht, s108n, hb_ci_s, hx, hbb_t, if_neg (by decide), s108n, hb_ci_s, hu, hbb_t, if_pos (by decide), hb_g_t, hb_g_t, hb_g_nil, if_neg t10, if_neg (fun q => q r1), e80_49s s hs t ht, s105, hb_ci_s]
          · have d1 : ¬ hb_up (hb_up σ 13 9 1) 54 0 0 55 s < 0 := by rw [um_c _ _ _ (by omega), um_c _ _ _ (by omega), l3]; exact n1
            have d2 : ¬ (0 : Int32) ≤ hb_up (hb_up σ 13 9 1) 54 0 0 55 t := by rw [um_c _ _ _ (by omega), um_c _ _ _ (by omega), r2]; decide
            rw [v117, e117_0, s114, hb_ci_s, hx, hbb_t, if_neg (by decide), s114, hb_ci_s, hu, hbb_t, if_pos (by decide)]
            simp only [hb_g_t, hb_g_nil]
            rw [q_cl (by omega), q_cl (by omega), if_neg d1, if_neg d2, e117_45, s113, hb_ci_s]
        · have r10 : ¬ σ (15 + t) 1 = 0 := by rw [r1]; decide
          have hl0 : (0 : Int32) ≤ nI l' := by rw [q_0, q_le (by omega) (by omega)]; omega
          by_cases hll : l = l'
          · subst hll
            have hcl : σ (15 + s) 2 = σ (15 + t) 2 := by rw [l2, l2']
            have cy : (y < (0 : Int32)) = (y.toInt < 0) := propext Int32.lt_iff_toInt_lt
            have cv : (v < (0 : Int32)) = (v.toInt < 0) := propext Int32.lt_iff_toInt_lt
            have cw' : (w < (0 : Int32)) = (w.toInt < 0) := propext Int32.lt_iff_toInt_lt
            have g1 : ((0 : Int32) < lg_cmp (y.toInt64 + w.toInt64) (nI z).toInt64) = ((z : Int) < y.toInt + w.toInt) := by rw [← q_ti (show z < 2147483648 by omega)]; exact propext (l_gt y w (nI z))
            have g2 : (lg_cmp (v.toInt64 + w.toInt64) (nI z').toInt64 ≤ (0 : Int32)) = (v.toInt + w.toInt ≤ z') := by rw [← q_ti (show z' < 2147483648 by omega)]; exact propext (l_le v w (nI z'))
            have hmod : ∀ σ1 : hbM, σ1 55 = σ 55 → σ1 56 = σ 56 → hb_ev hbSH 117 [.ref 54, .int (nI s), .int y, .int (nI t), .int v, .int w] σ1 = (if (0 ≤ y.toInt ∧ 0 ≤ w.toInt ∧ y.toInt + w.toInt ≤ z) ∧ (0 ≤ v.toInt ∧ 0 ≤ w.toInt ∧ v.toInt + w.toInt ≤ z') then hb_run hbSH 117 (143, [.ref 54, .int (nI s), .int y, .int (nI t), .int v, .int w, .int (if y < v then 0 else 1), .int 0, .null], [], hb_up (hb_up σ1 54 0 0) 54 1 0) else some (some (.int ((-1000010 : Int32) - 2)), hb_up (hb_up (hb_up σ1 54 0 0) 54 1 0) 54 1 2)) := fun σ1 b1 b2 => by
              rw [v117, e117_0, s114, hb_ci_s, hx, hbb_t, if_neg (by decide), s114, hb_ci_s, hu, hbb_t, if_pos (by decide)]
              simp only [hb_g_t, hb_g_nil]
              rw [q_cl (by omega), q_cl (by omega), um_c _ _ _ (show (55 : Nat) ≠ 54 by omega), um_c _ _ _ (show (56 : Nat) ≠ 54 by omega), b1, b2, l3, l3', z3, z3', if_neg n1, if_pos hl0, if_pos rfl, e117_121, s113, hb_ci_s]
              by_cases q1 : y.toInt < 0
              · rw [if_pos (by rw [cy]; exact q1), if_neg (by omega)]
              · rw [if_neg (by rw [cy]; exact q1)]
                by_cases q2 : v.toInt < 0
                · rw [if_pos (by rw [cv]; exact q2), if_neg (by omega)]
                · rw [if_neg (by rw [cv]; exact q2)]
                  by_cases q3 : w.toInt < 0
                  · rw [if_pos (by rw [cw']; exact q3), if_neg (by omega)]
                  · rw [if_neg (by rw [cw']; exact q3)]
                    by_cases q4 : (z : Int) < y.toInt + w.toInt
                    · rw [if_pos (by rw [g1]; exact q4), if_neg (by omega)]
                    · rw [if_neg (by rw [g1]; exact q4)]
                      by_cases q5 : v.toInt + w.toInt ≤ z'
                      · rw [if_pos (by rw [g2]; exact q5), if_pos (show (0 ≤ y.toInt ∧ 0 ≤ w.toInt ∧ y.toInt + w.toInt ≤ z) ∧ (0 ≤ v.toInt ∧ 0 ≤ w.toInt ∧ v.toInt + w.toInt ≤ z') by omega)]
                        by_cases q6 : y < v
                        · rw [if_pos q6, if_pos q6]
                        · rw [if_neg q6, if_neg q6]
                      · rw [if_neg (by rw [g2]; exact q5), if_neg (by omega)]
            by_cases hA : 0 ≤ y.toInt ∧ 0 ≤ w.toInt ∧ y.toInt + w.toInt ≤ z
            · by_cases hB : 0 ≤ v.toInt ∧ 0 ≤ w.toInt ∧ v.toInt + w.toInt ≤ z'
              · obtain ⟨a, ha, rfl⟩ := nI_of (x := y) (by rw [Int32.lt_iff_toInt_lt]; show ¬ y.toInt < 0; omega)
                obtain ⟨b, hb, rfl⟩ := nI_of (x := v) (by rw [Int32.lt_iff_toInt_lt]; show ¬ v.toInt < 0; omega)
                obtain ⟨m, hm, rfl⟩ := nI_of (x := w) (by rw [Int32.lt_iff_toInt_lt]; show ¬ w.toInt < 0; omega)
                have hA0 := hA
                have hB0 := hB
                rw [q_ti (by omega), q_ti (by omega)] at hA0 hB0
                have ham : a + m ≤ 40 := by omega
                have hbm : b + m ≤ 40 := by omega
                have hcp : ∀ i, hb_up (hb_up (hb_up (hb_cpy σ (23 + s) (23 + t) a b m) 13 9 0) 54 0 0) 54 1 0 57 i = σ 57 i := fun i => by
                  rw [um_c _ _ _ (by omega), um_c _ _ _ (by omega), um_c _ _ _ (by omega)]; unfold hb_cpy; rw [if_neg (by omega)]
                have c55 : ∀ c, c = 55 ∨ c = 56 → hb_up (hb_cpy σ (23 + s) (23 + t) a b m) 13 9 0 c = σ c := fun c q => by
                  rw [um_c _ _ _ (by omega)]; unfold hb_cpy; rw [if_neg (by omega)]
                have hm2 := hmod (hb_up (hb_cpy σ (23 + s) (23 + t) a b m) 13 9 0) (c55 55 (by omega)) (c55 56 (by omega))
                rw [if_pos ⟨hA, hB⟩] at hm2
                have hlast : ∃ ρ, hb_ev hbSH 117 [.ref 54, .int (nI s), .int (nI a), .int (nI t), .int (nI b), .int (nI m)] (hb_up (hb_cpy σ (23 + s) (23 + t) a b m) 13 9 0) = some (some (.int (nI m)), ρ) ∧ (∀ c, c ≠ 57 → ρ c = hb_up (hb_up (hb_up (hb_cpy σ (23 + s) (23 + t) a b m) 13 9 0) 54 0 0) 54 1 0 c) ∧ ∀ i, ρ 57 i = if 40 * t + b ≤ i ∧ i < 40 * t + b + m then σ 57 (40 * s + a + (i - (40 * t + b))) else σ 57 i := by
                  by_cases hab : a < b
                  · obtain ⟨ρ, k1, k2, k3⟩ := s117_dn hs ht ham hbm (σ 57) (by omega) m 0 (hb_up (hb_up (hb_up (hb_cpy σ (23 + s) (23 + t) a b m) 13 9 0) 54 0 0) 54 1 0) .null (by omega) (fun i => by rw [hcp, if_neg (by omega)])
                    refine ⟨ρ, ?_, k2, k3⟩
                    rw [hm2, if_pos (by rw [q_lt (by omega) (by omega)]; exact hab)]
                    exact k1
                  · obtain ⟨ρ, k1, k2, k3⟩ := s117_up hs ht ham hbm (σ 57) (by omega) m 0 (hb_up (hb_up (hb_up (hb_cpy σ (23 + s) (23 + t) a b m) 13 9 0) 54 0 0) 54 1 0) .null (by omega) (fun i => by rw [hcp, if_neg (by omega)])
                    refine ⟨ρ, ?_, k2, k3⟩
                    rw [hm2, if_neg (by rw [q_lt (by omega) (by omega)]; exact hab)]
                    exact k1
                obtain ⟨ρ, k1, k2, k3⟩ := hlast
                refine ⟨nI m, hb_up (hb_cpy σ (23 + s) (23 + t) a b m) 13 9 0, ρ, ?_, k1, cp_J hJ hs ht ham hbm k2 k3⟩
                have p0 : ∀ k : Nat, k < 2147483648 → decide (¬ nI k < (0 : Int32)) = true := fun k hk => decide_eq_true (by rw [q_0, q_lt (by omega) (by omega)]; omega)
                rw [v80, e80_0s s hs t ht, s108n, hb_ci_s, hx, hbb_t, if_neg (by decide), s108n, hb_ci_s, hu, hbb_t, if_pos (by decide), hb_g_t, hb_g_t, hb_g_nil, if_neg t10, if_pos r10, if_pos hcl, s30 σ hs z1 z2, hb_ci_s, decide_eq_true hA, hbb_t, if_neg (by decide), s30 σ ht z1' z2', hb_ci_s, decide_eq_true hB, hbb_t, if_pos (by decide), p0 a (by omega), p0 b (by omega), p0 m (by omega), q_cl (by omega), q_cl (by omega), q_cl (by omega), decide_eq_true ham, decide_eq_true hbm, hb_g_t, hb_g_t, hb_g_t, hb_g_t, hb_g_t, hb_g_nil, s106, hb_ci_s]
              · refine ⟨(-1000010 : Int32) - 2, hb_up σ 13 9 2, _, ?_, ?_, found_J hJ 2⟩
                · rw [v80, e80_0s s hs t ht, s108n, hb_ci_s, hx, hbb_t, if_neg (by decide), s108n, hb_ci_s, hu, hbb_t, if_pos (by decide), hb_g_t, hb_g_t, hb_g_nil, if_neg t10, if_pos r10, if_pos hcl, s30 σ hs z1 z2, hb_ci_s, decide_eq_true hA, hbb_t, if_neg (by decide), s30 σ ht z1' z2', hb_ci_s, decide_eq_false hB, hbb_f, if_neg (fun q => q rfl), e80_97s s hs t ht, s105, hb_ci_s]
                · rw [hmod _ (um_c _ _ _ (by omega)) (um_c _ _ _ (by omega)), if_neg (fun q => hB q.2)]
            · refine ⟨(-1000010 : Int32) - 2, hb_up σ 13 9 2, _, ?_, ?_, found_J hJ 2⟩
              · rw [v80, e80_0s s hs t ht, s108n, hb_ci_s, hx, hbb_t, if_neg (by decide), s108n, hb_ci_s, hu, hbb_t, if_pos (by decide), hb_g_t, hb_g_t, hb_g_nil, if_neg t10, if_pos r10, if_pos hcl, s30 σ hs z1 z2, hb_ci_s, decide_eq_false hA, hbb_f, if_pos rfl, e80_97s s hs t ht, s105, hb_ci_s]
              · rw [hmod _ (um_c _ _ _ (by omega)) (um_c _ _ _ (by omega)), if_neg (fun q => hA q.1)]
          · refine ⟨(-1000010 : Int32) - 5, hb_up σ 13 9 5, _, ?_, ?_, found_J hJ 5⟩
            · rw [v80, e80_0s s hs t ht, s108n, hb_ci_s, hx, hbb_t, if_neg (by decide), s108n, hb_ci_s, hu, hbb_t, if_pos (by decide), hb_g_t, hb_g_t, hb_g_nil, if_neg t10, if_pos r10, if_neg (by rw [l2, l2', q_eq (by omega) (by omega)]; exact hll), s105, hb_ci_s]
            · rw [v117, e117_0, s114, hb_ci_s, hx, hbb_t, if_neg (by decide), s114, hb_ci_s, hu, hbb_t, if_pos (by decide)]
              simp only [hb_g_t, hb_g_nil]
              rw [q_cl (by omega), q_cl (by omega), um_c _ _ _ (show (55 : Nat) ≠ 54 by omega), um_c _ _ _ (show (55 : Nat) ≠ 13 by omega), l3, l3', if_neg n1, if_pos hl0, if_neg (by rw [q_eq (by omega) (by omega)]; exact hll), s113, hb_ci_s]
