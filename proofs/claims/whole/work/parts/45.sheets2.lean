/-! SHEETS: set, sheet, count -/
theorem jS_up {σ σ' : hbM} (h : jS σ) {s : Nat} (hu : ∀ u, u < 8 → u ≠ s → σ' (15 + u) = σ (15 + u) ∧ σ' 55 u = σ 55 u ∧ σ' 56 u = σ 56 u ∧ σ' (23 + u) = σ (23 + u) ∧ ∀ k, k < 40 → σ' 57 (40 * u + k) = σ 57 (40 * u + k))
    (h1 : ((σ' (15 + s) 1 = 0 ∧ σ' 55 s = -1) ∨ (σ' (15 + s) 1 = 1 ∧ ∃ l, l < 3 ∧ σ' (15 + s) 2 = nI l ∧ σ' 55 s = nI l)) ∧ (∃ n, n ≤ 40 ∧ σ' (15 + s) 3 = nI n ∧ σ' 56 s = nI n) ∧ ∀ k, k < 40 → σ' (23 + s) k = σ' 57 (40 * s + k)) : jS σ' := by
  intro u hu8
  by_cases q : u = s
  · subst q; exact h1
  · obtain ⟨b1, b2, b3, b4, b5⟩ := hu u hu8 q
    obtain ⟨a1, a2, a3⟩ := h u hu8
    rw [b1, b2, b3, b4]
    exact ⟨a1, a2, fun k hk => by rw [b5 k hk]; exact a3 k hk⟩
theorem s30 (σ : hbM) {s z : Nat} (hs : s < 8) (hz : z ≤ 40) (h : σ (15 + s) 3 = nI z) (x y : Int32) : hb_ev hbSH 30 [.ref (15 + s), .int x, .int y] σ = some (some (.int (hbb (decide (0 ≤ x.toInt ∧ 0 ≤ y.toInt ∧ x.toInt + y.toInt ≤ z)))), σ) := by
  have c1 : (x < (0 : Int32)) = (x.toInt < 0) := propext Int32.lt_iff_toInt_lt
  have c2 : (y < (0 : Int32)) = (y.toInt < 0) := propext Int32.lt_iff_toInt_lt
  have c3 : (nI z < x) = ((z : Int) < x.toInt) := by rw [← q_ti (show z < 2147483648 by omega)]; exact propext Int32.lt_iff_toInt_lt
  rw [v30, e30_0 s hs, h]
  by_cases g1 : x.toInt < 0
  · rw [if_pos (by rw [c1]; exact g1), decide_eq_false (by omega)]; rfl
  · rw [if_neg (by rw [c1]; exact g1)]
    by_cases g2 : y.toInt < 0
    · rw [if_pos (by rw [c2]; exact g2), decide_eq_false (by omega)]; rfl
    · rw [if_neg (by rw [c2]; exact g2)]
      by_cases g3 : (z : Int) < x.toInt
      · rw [if_pos (by rw [c3]; exact g3), decide_eq_false (by omega)]; rfl
      · rw [if_neg (by rw [c3]; exact g3)]
        obtain ⟨a, ha, rfl⟩ := nI_of (x := x) (by rw [Int32.lt_iff_toInt_lt]; exact g1)
        rw [q_ti (by omega)] at g3 ⊢
        have c4 : (nI z - nI a < y) = ((z : Int) - a < y.toInt) := by
          rw [q_sub (by omega)]
          have : ((z - a : Nat) : Int) = (z : Int) - a := by omega
          rw [← this, ← q_ti (show z - a < 2147483648 by omega)]; exact propext Int32.lt_iff_toInt_lt
        by_cases g4 : (z : Int) - a < y.toInt
        · rw [if_pos (by rw [c4]; exact g4), decide_eq_false (by omega)]; rfl
        · rw [if_neg (by rw [c4]; exact g4), decide_eq_true (by omega)]; rfl
def cutv (l : Nat) (x : Int32) : Int32 := if l = 0 then (Int32.toInt8 x).toInt32 else if l = 1 then (Int32.toInt16 x).toInt32 else x
theorem s31 (σ : hbM) {s l : Nat} (hs : s < 8) (hl : l < 3) (h : σ (15 + s) 2 = nI l) (x : Int32) : hb_ev hbSH 31 [.ref (15 + s), .int x] σ = some (some (.int (cutv l x)), σ) := by
  rw [v31, e31_0 s hs, h]
  rcases (show l = 0 ∨ l = 1 ∨ l = 2 by omega) with rfl | rfl | rfl <;> rfl
theorem n_1b : ∀ n, n < 41 → ((nI n - 1).toInt64).toInt = (n : Int) - 1 := by decide +kernel
theorem o_set {n : Nat} {σ : hbM} (hJ : J n σ) (x y v : Int32) : Ok2 n 79 116 [.int x, .int y, .int v] σ := by
  obtain ⟨_, _, _, _, h5, h6⟩ := hJ.1
  cases hx : hb_in x 8 with
  | false =>
    refine Ok2.rd hJ (r := -1000001) ?_ ?_
    · rw [v79, e79_0g, s108n, hb_ci_s, hx]; rfl
    · rw [v116, e116_0, s114, hb_ci_s, hx]; rfl
  | true =>
    obtain ⟨s, hs, rfl⟩ := q_in_of hx
    obtain ⟨_, ⟨z, z1, z2, z3⟩, hit⟩ := h5 s hs
    rcases sh_t h5 hs with ⟨t1, t2⟩ | ⟨t1, l, l1, l2, l3⟩
    · refine ⟨(-1000010 : Int32) - 1, hb_up σ 13 9 1, _, ?_, ?_, found_J hJ 1⟩
      · rw [v79, e79_0s s hs, s108n, hb_ci_s, hx, hbb_t, if_pos (by decide), hb_g_t, hb_g_nil, t1, if_neg (fun q => q rfl), s105, hb_ci_s]
      · rw [v116, e116_0, s114, hb_ci_s, hx, hbb_t, if_pos (by decide), hb_g_t, hb_g_nil, q_cl (by omega), um_c _ _ _ (show (55 : Nat) ≠ 54 by omega), um_c _ _ _ (show (55 : Nat) ≠ 13 by omega), t2, if_neg (by decide), s113, hb_ci_s]
    · have hl0 : (0 : Int32) ≤ nI l := by rw [q_0, q_le (by omega) (by omega)]; omega
      have hy : decide (0 ≤ y.toInt ∧ 0 ≤ (1 : Int32).toInt ∧ y.toInt + (1 : Int32).toInt ≤ z) = hb_in y z := by
        rw [Bool.eq_iff_iff, decide_eq_true_eq, q_in_iff, show (1 : Int32).toInt = 1 from rfl]; omega
      cases hyz : hb_in y z with
      | false =>
        refine ⟨(-1000010 : Int32) - 2, hb_up σ 13 9 2, _, ?_, ?_, found_J hJ 2⟩
        · rw [v79, e79_0s s hs, s108n, hb_ci_s, hx, hbb_t, if_pos (by decide), hb_g_t, hb_g_nil, t1, if_pos (by decide), s30 σ hs z1 z2, hb_ci_s, hy, hyz, hbb_f, if_neg (fun q => q rfl), s105, hb_ci_s]
        · rw [v116, e116_0, s114, hb_ci_s, hx, hbb_t, if_pos (by decide), hb_g_t, hb_g_nil, hb_g_t, hb_g_nil, q_cl (by omega), um_c _ _ _ (show (55 : Nat) ≠ 54 by omega), um_c _ _ _ (show (55 : Nat) ≠ 13 by omega), l3, if_pos hl0, um_c _ _ _ (show (56 : Nat) ≠ 54 by omega), um_c _ _ _ (show (56 : Nat) ≠ 13 by omega), z3, s112, hb_ci_s, q_long y z (n_1b z (by omega)), hyz, hbb_f, if_neg (fun q => q rfl), s113, hb_ci_s]
      | true =>
        obtain ⟨k, hk, rfl⟩ := q_in_of hyz
        have e4 : (40 : Int32) * nI s + nI k = nI (40 * s + k) := by rw [q_40, q_mul, q_add]
        refine ⟨cutv l v, hb_up (hb_up σ (23 + s) k (cutv l v)) 13 9 0, hb_up (hb_up (hb_up (hb_up (hb_up σ (23 + s) k (cutv l v)) 13 9 0) 54 0 0) 54 1 0) 57 (40 * s + k) (cutv l v), ?_, ?_, ?_⟩
        · rw [v79, e79_0s s hs, s108n, hb_ci_s, hx, hbb_t, if_pos (by decide), hb_g_t, hb_g_nil, t1, if_pos (by decide), s30 σ hs z1 z2, hb_ci_s, hy, hyz, hbb_t, if_pos (by decide), s31 σ hs l1 l2, hb_ci_s, q_inT (by omega) (by omega), hb_g_t, hb_g_t, hb_g_nil, q_cl (by omega), um_s, s106, hb_ci_s]
        · have fin : ∀ w : Int32, w = cutv l v → hb_run hbSH 116 (99, [.ref 54, .int (nI s), .int (nI k), .int v], [.int w, .int (nI (40 * s + k)), .ref 57], hb_up (hb_up (hb_up (hb_up σ (23 + s) k (cutv l v)) 13 9 0) 54 0 0) 54 1 0) = some (some (.int (cutv l v)), hb_up (hb_up (hb_up (hb_up (hb_up σ (23 + s) k (cutv l v)) 13 9 0) 54 0 0) 54 1 0) 57 (40 * s + k) (cutv l v)) := fun w hw => by
            rw [e116_99, e4, q_inT (by omega) (by omega), hb_g_t, hb_g_t, hb_g_nil, q_cl (by omega), um_s, hw]
          have e55 : hb_up (hb_up (hb_up (hb_up σ (23 + s) k (cutv l v)) 13 9 0) 54 0 0) 54 1 0 55 s = nI l := by
            rw [um_c _ _ _ (by omega), um_c _ _ _ (by omega), um_c _ _ _ (by omega), um_c _ _ _ (by omega)]; exact l3
          rw [v116, e116_0, s114, hb_ci_s, hx, hbb_t, if_pos (by decide), hb_g_t, hb_g_nil, hb_g_t, hb_g_nil, q_cl (by omega), um_c _ _ _ (show (55 : Nat) ≠ 54 by omega), um_c _ _ _ (show (55 : Nat) ≠ 13 by omega), um_c _ _ _ (show (55 : Nat) ≠ 23 + s by omega), l3, if_pos hl0, um_c _ _ _ (show (56 : Nat) ≠ 54 by omega), um_c _ _ _ (show (56 : Nat) ≠ 13 by omega), um_c _ _ _ (show (56 : Nat) ≠ 23 + s by omega), z3, s112, hb_ci_s, q_long _ z (n_1b z (by omega)), hyz, hbb_t, if_pos (by decide)]
          simp only [hb_g_t, hb_g_nil]
          rw [e55, e4]
          rcases (show l = 0 ∨ l = 1 ∨ l = 2 by omega) with rfl | rfl | rfl
          · rw [if_neg (by decide)]; exact fin _ rfl
          · rw [if_pos (by decide), if_neg (by decide)]; exact fin _ rfl
          · rw [if_pos (by decide), if_pos (by decide)]; exact fin _ rfl
        · have e : ∀ c, c ≠ 23 + s → c ≠ 13 → c ≠ 54 → c ≠ 57 → hb_up (hb_up (hb_up (hb_up (hb_up σ (23 + s) k (cutv l v)) 13 9 0) 54 0 0) 54 1 0) 57 (40 * s + k) (cutv l v) c = σ c := fun c q1 q2 q3 q4 => by
            rw [um_c _ _ _ q4, um_c _ _ _ q3, um_c _ _ _ q3, um_c _ _ _ q2, um_c _ _ _ q1]
          have e57 : ∀ i, hb_up (hb_up (hb_up (hb_up (hb_up σ (23 + s) k (cutv l v)) 13 9 0) 54 0 0) 54 1 0) 57 (40 * s + k) (cutv l v) 57 i = if i = 40 * s + k then cutv l v else σ 57 i := fun i => by
            rw [um_at, um_c _ _ _ (by omega), um_c _ _ _ (by omega), um_c _ _ _ (by omega), um_c _ _ _ (by omega)]
          refine J_sh hJ (fun c q1 q2 q3 q4 q5 => e c (by omega) (by omega) q2 q5) (fun i q1 q2 => ?_) ?_ ?_ ?_ (jS_up h5 (s := s) (fun u hu q => ?_) ?_)
          · rw [um_c _ _ _ (by omega), um_i _ _ _ q2, um_i _ _ _ q1, um_c _ _ _ (by omega), um_c _ _ _ (by omega)]
          · rw [um_c _ _ _ (by omega), um_c _ _ _ (by omega), um_c _ _ _ (by omega), um_s]
          · rw [um_c _ _ _ (by omega), um_s]
          · rw [um_c _ _ _ (by omega), um_c _ _ _ (by omega), um_c _ _ _ (by omega), um_i _ _ _ (by omega), um_c _ _ _ (by omega)]
          · refine ⟨e _ (by omega) (by omega) (by omega) (by omega), by rw [e 55 (by omega) (by omega) (by omega) (by omega)], by rw [e 56 (by omega) (by omega) (by omega) (by omega)], e _ (by omega) (by omega) (by omega) (by omega), fun i hi => ?_⟩
            rw [e57, if_neg (by omega)]
          · rw [e (15 + s) (by omega) (by omega) (by omega) (by omega), e 55 (by omega) (by omega) (by omega) (by omega), e 56 (by omega) (by omega) (by omega) (by omega)]
            refine ⟨Or.inr ⟨t1, l, l1, l2, l3⟩, ⟨z, z1, z2, z3⟩, fun i hi => ?_⟩
            rw [e57, um_c _ _ _ (show 23 + s ≠ 57 by omega), um_c _ _ _ (show 23 + s ≠ 54 by omega), um_c _ _ _ (show 23 + s ≠ 54 by omega), um_c _ _ _ (show 23 + s ≠ 13 by omega), um_at]
            by_cases q : i = k
            · rw [if_pos q, if_pos (by omega)]
            · rw [if_neg q, if_neg (by omega)]; exact hit i hi
