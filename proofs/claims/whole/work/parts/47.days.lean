/-! days -/
theorem l_b (x : Int32) : -2147483648 ≤ x.toInt ∧ x.toInt < 2147483648 := by
  have h1 := Int32.le_toInt x
  have h2 := Int32.toInt_lt x
  omega
theorem l_add (x y : Int32) : (x.toInt64 + y.toInt64).toInt = x.toInt + y.toInt := by
  have h1 := l_b x
  have h2 := l_b y
  rw [Int64.toInt_add, Int32.toInt_toInt64, Int32.toInt_toInt64]
  exact Int.bmod_eq_of_le (by omega) (by omega)
theorem l_le (x y z : Int32) : (lg_cmp (x.toInt64 + y.toInt64) z.toInt64 ≤ (0 : Int32)) ↔ x.toInt + y.toInt ≤ z.toInt := by
  have h : (0 < lg_cmp (x.toInt64 + y.toInt64) z.toInt64) ↔ z.toInt < x.toInt + y.toInt := by
    rw [lg_cmp_gt, Int64.lt_iff_toInt_lt, l_add, Int32.toInt_toInt64]
  have h2 : (lg_cmp (x.toInt64 + y.toInt64) z.toInt64 ≤ (0 : Int32)) ↔ ¬ (0 < lg_cmp (x.toInt64 + y.toInt64) z.toInt64) := by
    rw [Int32.le_iff_toInt_le, Int32.lt_iff_toInt_lt]; omega
  rw [h2, h]; omega
theorem l_gt (x y z : Int32) : (0 < lg_cmp (x.toInt64 + y.toInt64) z.toInt64) ↔ z.toInt < x.toInt + y.toInt := by
  rw [lg_cmp_gt, Int64.lt_iff_toInt_lt, l_add, Int32.toInt_toInt64]
def dl (f : Nat → Int32) (bd : Nat → Bool) : Nat → Nat → Nat → Option Nat
  | 0, _, c => some c
  | j + 1, i, c => if hb_in (f i) 1024 = true then dl f bd j (i + 1) (c + (if bd (f i).toNatClampNeg = true then 1 else 0)) else none
theorem dl_eq {f g : Nat → Int32} {bd : Nat → Bool} : ∀ (j i c : Nat), (∀ k, i ≤ k → k < i + j → f k = g k) → dl f bd j i c = dl g bd j i c := by
  intro j
  induction j with
  | zero => intro i c _; rfl
  | succ j ih =>
    intro i c h
    simp only [dl]
    rw [h i (by omega) (by omega), ih (i + 1) _ (fun k h1 h2 => h k (by omega) (by omega))]
theorem s90_loop {σ : hbM} {bd : Nat → Bool} (hB : ∀ st, st < 1024 → σ 11 st = hbb (bd st)) {s a m : Nat} (hs : s < 8) (ham : a + m ≤ 40) (x1 : Int32) : ∀ (j i c : Nat), i + j = a + m → c ≤ i →
    hb_run hbSH 90 (65, [.ref 13, .int x1, .int (nI a), .int (nI m), .ref (15 + s), .int (nI c), .int (nI i)], [], σ) = (match dl (σ (23 + s)) bd j i c with
      | some r => some (some (.int (nI r)), hb_up σ 13 9 0)
      | none => some (some (.int (-1000001)), σ)) := by
  intro j
  induction j with
  | zero =>
    intro i c hi hc
    rw [e90_65s s hs, q_add, if_pos (by rw [q_le (by omega) (by omega)]; omega), s106, hb_ci_s]; rfl
  | succ j ih =>
    intro i c hi hc
    rw [e90_65s s hs, q_add, if_neg (by rw [q_le (by omega) (by omega)]; omega), q_inT (by omega) (by omega), hb_g_t, hb_g_nil, q_cl (by omega), s109n, hb_ci_s]
    simp only [dl]
    cases hg : hb_in (σ (23 + s) i) 1024 with
    | false => rw [hbb_f, if_neg (fun q => q rfl), if_neg (by decide)]
    | true =>
      have hlt := (q_nn hg (by omega)).2
      rw [hbb_t, if_pos (by decide), hb_g_t, hb_g_t, hb_g_nil, hB _ hlt, s111 hbSH1, hb_ci_s, hbb_n, q_add, nI_1, if_pos rfl]
      exact ih (i + 1) _ (by omega) (by split <;> omega)
theorem s149_loop {σ : hbM} {B : hbL} (hB : mL σ B 9 0) {s a m : Nat} (hs : s < 8) (ham : a + m ≤ 40) : ∀ (j i c : Nat), i + j = a + m → c ≤ i →
    hb_run hbSH 149 (79, [.ref 54, .int (nI s), .int (nI a), .int (nI m), .int (nI c), .int (nI (40 * s + i))], [], σ) = (match dl (fun k => σ 57 (40 * s + k)) (fun st => wAny B st B.1) j i c with
      | some r => some (some (.int (nI r)), hb_up σ 54 1 0)
      | none => some (some (.int (-1000001)), σ)) := by
  have e4 : (40 : Int32) * nI s + nI a + nI m = nI (40 * s + a + m) := by rw [q_40, q_mul, q_add, q_add]
  intro j
  induction j with
  | zero =>
    intro i c hi hc
    rw [e149_79, e4, if_pos (by rw [q_le (by omega) (by omega)]; omega)]; rfl
  | succ j ih =>
    intro i c hi hc
    rw [e149_79, e4, if_neg (by rw [q_le (by omega) (by omega)]; omega), q_inT (by omega) (by omega), hb_g_t, hb_g_nil, q_cl (by omega), s136, hb_ci_s]
    simp only [dl]
    cases hg : hb_in (σ 57 (40 * s + i)) 1024 with
    | false => rw [hbb_f, if_neg (fun q => q rfl), if_neg (by decide)]
    | true =>
      obtain ⟨he, hlt⟩ := q_nn hg (by omega)
      have e6 := s146 hB hlt
      rw [← he] at e6
      rw [hbb_t, if_pos (by decide), hb_g_t, hb_g_nil, e6, hb_ci_s, if_pos rfl]
      have i1 := ih (i + 1) (c + (if wAny B (σ 57 (40 * s + i)).toNatClampNeg B.1 = true then 1 else 0)) (by omega) (by split <;> omega)
      rw [i_0 (nI c), nI_1, nI_1, Nat.add_assoc (40 * s)]
      refine Eq.trans ?_ i1
      clear i1
      cases hw : wAny B (σ 57 (40 * s + i)).toNatClampNeg B.1 with
      | false => rw [hbb_f, if_pos (by decide)]; rfl
      | true => rw [hbb_t, if_neg (by decide)]; rfl
theorem s_120 (x : Int32) : decide ((1 : Int64) ≤ x.toInt64 ∧ x.toInt64 ≤ 20) = decide (1 ≤ x.toInt ∧ x.toInt ≤ 20) := by
  apply decide_eq_decide.mpr
  rw [Int64.le_iff_toInt_le, Int64.le_iff_toInt_le, Int32.toInt_toInt64]
  exact Iff.rfl
theorem o_days {n : Nat} {σ : hbM} (hJ : J n σ) (x y v : Int32) : Ok2 n 90 149 [.int x, .int y, .int v] σ := by
  obtain ⟨⟨F, B, G, w⟩, _, _, _, h5, h6⟩ := hJ.1
  obtain ⟨w1, w2, w3, w4, w5, _⟩ := w
  have c1 : (v < (1 : Int32)) = (v.toInt < 1) := propext Int32.lt_iff_toInt_lt
  have c2 : (v ≤ (20 : Int32)) = (v.toInt ≤ 20) := propext Int32.le_iff_toInt_le
  cases hx : hb_in x 8 with
  | false =>
    refine Ok2.rd hJ (r := -1000001) ?_ ?_
    · rw [v90, e90_0g, s108n, hb_ci_s, hx]; rfl
    · rw [v149, e149_0, s114, hb_ci_s, hx]; rfl
  | true =>
    obtain ⟨s, hs, rfl⟩ := q_in_of hx
    obtain ⟨_, ⟨z, z1, z2, z3⟩, hit⟩ := h5 s hs
    by_cases hv : 1 ≤ v.toInt ∧ v.toInt ≤ 20
    · rcases sh_t h5 hs with ⟨t1, t2⟩ | ⟨t1, l, l1, l2, l3⟩
      · refine ⟨(-1000010 : Int32) - 1, hb_up σ 13 9 1, _, ?_, ?_, found_J2 hJ 1⟩
        · rw [v90, e90_0s s hs, s108n, hb_ci_s, hx, hbb_t, if_neg (by decide), if_neg (by rw [c1]; omega), if_pos (by rw [c2]; omega), hb_g_t, hb_g_nil, t1, if_neg (fun q => q rfl), s105, hb_ci_s]
        · rw [v149, e149_0, s114, hb_ci_s, hx, hbb_t, if_neg (by decide), s112, hb_ci_s, s_120, decide_eq_true hv, hbb_t, if_pos (by decide), hb_g_t, hb_g_nil, q_cl (by omega), um_c _ _ _ (show (55 : Nat) ≠ 54 by omega), um_c _ _ _ (show (55 : Nat) ≠ 13 by omega), t2, if_neg (by decide), s113, hb_ci_s]
      · have hl0 : (0 : Int32) ≤ nI l := by rw [q_0, q_le (by omega) (by omega)]; omega
        have cy : (y < (0 : Int32)) = (y.toInt < 0) := propext Int32.lt_iff_toInt_lt
        have cl : (lg_cmp (y.toInt64 + v.toInt64) (nI z).toInt64 ≤ (0 : Int32)) = (y.toInt + v.toInt ≤ z) := by rw [← q_ti (show z < 2147483648 by omega)]; exact propext (l_le y v (nI z))
        by_cases hh : 0 ≤ y.toInt ∧ 0 ≤ v.toInt ∧ y.toInt + v.toInt ≤ z
        · obtain ⟨a, ha, rfl⟩ := nI_of (x := y) (by rw [Int32.lt_iff_toInt_lt]; show ¬ y.toInt < 0; omega)
          obtain ⟨m, hm, rfl⟩ := nI_of (x := v) (by rw [Int32.lt_iff_toInt_lt]; show ¬ v.toInt < 0; omega)
          have hh0 := hh
          rw [q_ti (by omega), q_ti (by omega)] at hh0
          have ham : a + m ≤ 40 := by omega
          have k1 := s90_loop w5 hs ham (nI s) m a 0 (by omega) (by omega)
          have hcls : hb_ev hbSH 90 [.ref 13, .int (nI s), .int (nI a), .int (nI m)] σ = (match dl (σ (23 + s)) (fun st => wAny B st B.1) m a 0 with
              | some r => some (some (.int (nI r)), hb_up σ 13 9 0)
              | none => some (some (.int (-1000001)), σ)) := by
            rw [v90, e90_0s s hs, s108n, hb_ci_s, hx, hbb_t, if_neg (by decide), if_neg (by rw [c1]; omega), if_pos (by rw [c2]; omega), hb_g_t, hb_g_nil, t1, if_pos (by decide), s30 σ hs z1 z2, hb_ci_s, decide_eq_true hh, hbb_t, if_pos (by decide)]
            exact k1
          have hmod : ∀ σ1 : hbM, mL σ1 B 9 0 → σ1 55 s = nI l → σ1 56 s = nI z → σ1 57 = σ 57 → hb_ev hbSH 149 [.ref 54, .int (nI s), .int (nI a), .int (nI m)] σ1 = (match dl (σ (23 + s)) (fun st => wAny B st B.1) m a 0 with
              | some r => some (some (.int (nI r)), hb_up (hb_up σ1 54 0 0) 54 1 0)
              | none => some (some (.int (-1000001)), hb_up σ1 54 0 0)) := fun σ1 hB1 b1 b2 b3 => by
            have hB2 := mS_mL (mS_t σ1) (Or.inl rfl) hB1
            have k2 := s149_loop hB2 hs ham m a 0 (by omega) (by omega)
            have e5 : dl (fun k => hb_up σ1 54 0 0 57 (40 * s + k)) (fun st => wAny B st B.1) m a 0 = dl (σ (23 + s)) (fun st => wAny B st B.1) m a 0 := by
              apply dl_eq
              intro k q1 q2
              rw [um_c _ _ _ (by omega), b3, hit k (by omega)]
            rw [e5] at k2
            have e4 : (40 : Int32) * nI s + nI a = nI (40 * s + a) := by rw [q_40, q_mul, q_add]
            rw [v149, e149_0, s114, hb_ci_s, hx, hbb_t, if_neg (by decide), s112, hb_ci_s, s_120, decide_eq_true hv, hbb_t, if_pos (by decide), hb_g_t, hb_g_nil, hb_g_t, hb_g_nil, q_cl (by omega), um_c _ _ _ (show (55 : Nat) ≠ 54 by omega), b1, if_pos hl0, if_neg (by rw [cy]; omega), um_c _ _ _ (show (56 : Nat) ≠ 54 by omega), b2, if_pos (by rw [cl]; omega), e4]
            exact k2
          cases hd : dl (σ (23 + s)) (fun st => wAny B st B.1) m a 0 with
          | none =>
            rw [hd] at hcls
            have h2 := hmod σ w3 l3 z3 rfl
            rw [hd] at h2
            exact Ok2.rd hJ (r := -1000001) hcls h2
          | some r =>
            rw [hd] at hcls
            have hB1 : mL (hb_up σ 13 9 0) B 9 0 := by
              obtain ⟨k1, k2, k3⟩ := w3
              refine ⟨k1, by rw [um_c _ _ _ (by omega)]; exact k2, fun i hi => ?_⟩
              obtain ⟨m1, m2⟩ := k3 i hi
              refine ⟨by rw [um_c _ _ _ (by omega)]; exact m1, fun j hj => ⟨?_, ?_⟩⟩
              · unfold mC; rw [um_c _ _ _ (by omega), um_c _ _ _ (by omega), um_c _ _ _ (by omega)]; exact (m2 j hj).1
              · have := (m2 j hj).2
                unfold cM tn at this ⊢
                rw [um_c _ _ _ (by omega), um_c _ _ _ (by omega), um_c _ _ _ (by omega)]; exact this
            have h2 := hmod (hb_up σ 13 9 0) hB1 (by rw [um_c _ _ _ (by omega)]; exact l3) (by rw [um_c _ _ _ (by omega)]; exact z3) (um_c _ _ _ (by omega))
            rw [hd] at h2
            exact ⟨nI r, hb_up σ 13 9 0, _, hcls, h2, found_J2 hJ 0⟩
        · refine ⟨(-1000010 : Int32) - 2, hb_up σ 13 9 2, _, ?_, ?_, found_J2 hJ 2⟩
          · rw [v90, e90_0s s hs, s108n, hb_ci_s, hx, hbb_t, if_neg (by decide), if_neg (by rw [c1]; omega), if_pos (by rw [c2]; omega), hb_g_t, hb_g_nil, t1, if_pos (by decide), s30 σ hs z1 z2, hb_ci_s, decide_eq_false hh, hbb_f, if_neg (fun q => q rfl), s105, hb_ci_s]
          · rw [v149, e149_0, s114, hb_ci_s, hx, hbb_t, if_neg (by decide), s112, hb_ci_s, s_120, decide_eq_true hv, hbb_t, if_pos (by decide), hb_g_t, hb_g_nil, hb_g_t, hb_g_nil, q_cl (by omega), um_c _ _ _ (show (55 : Nat) ≠ 54 by omega), um_c _ _ _ (show (55 : Nat) ≠ 13 by omega), l3, if_pos hl0, um_c _ _ _ (show (56 : Nat) ≠ 54 by omega), um_c _ _ _ (show (56 : Nat) ≠ 13 by omega), z3, e149_62, s113, hb_ci_s]
            by_cases g : y.toInt < 0
            · rw [if_pos (by rw [cy]; exact g)]
            · rw [if_neg (by rw [cy]; exact g), if_neg (by rw [cl]; omega)]
    · refine Ok2.rd hJ (r := -1000001) ?_ ?_
      · rw [v90, e90_0s s hs, s108n, hb_ci_s, hx, hbb_t, if_neg (by decide)]
        by_cases g1 : v.toInt < 1
        · rw [if_pos (by rw [c1]; exact g1)]
        · rw [if_neg (by rw [c1]; exact g1), if_neg (by rw [c2]; omega)]
      · rw [v149, e149_0, s114, hb_ci_s, hx, hbb_t, if_neg (by decide), s112, hb_ci_s, s_120, decide_eq_false hv]; rfl
