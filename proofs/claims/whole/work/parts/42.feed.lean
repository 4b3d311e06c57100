/-! feed -/
def fb (x : Int64) (j : Nat) : Nat := (Int64.toInt32 (x >>> (Int32.toInt64 ((8 : Int32) * nI j) &&& 63))).toBitVec.toNat &&& 255
theorem q_raw (z : Int32) : z = nI z.toBitVec.toNat := by
  apply q_inj
  rw [q_bv, BitVec.ofNat_toNat, BitVec.setWidth_eq]
theorem fb_lt (x : Int64) (j : Nat) : fb x j < 256 := Nat.lt_of_le_of_lt Nat.and_le_right (by omega)
theorem fb_c (x : Int64) (j : Nat) : (Int64.toInt32 (x >>> (Int32.toInt64 ((8 : Int32) * nI j) &&& 63))) &&& (255 : Int32) = nI (fb x j) := by
  unfold fb
  generalize Int64.toInt32 (x >>> (Int32.toInt64 ((8 : Int32) * nI j) &&& 63)) = z
  rw [q_255, ← q_and, ← q_raw]
theorem fb_m (x : Int64) (j : Nat) : Int64.toInt32 ((x >>> (Int32.toInt64 ((8 : Int32) * nI j) &&& 63)) &&& (255 : Int64)) = nI (fb x j) := by
  rw [Int64.toInt32_and, show Int64.toInt32 (255 : Int64) = 255 from rfl, fb_c]
def cf1 (σ : hbM) (n : Nat) (b : Nat) : hbM := hb_up (hb_up σ 40 n (nI b)) 39 3 (nI (n + 1))
def mf1 (σ : hbM) (n : Nat) (b : Nat) : hbM := hb_up (hb_up σ 67 n (nI b)) 54 23 (nI (n + 1))
def cfl (x : Int64) : Nat → hbM → Nat → hbM
  | 0, σ, _ => σ
  | j + 1, σ, n => cfl x j (cf1 σ n (fb x j)) (n + 1)
def mfl (x : Int64) : Nat → hbM → Nat → hbM
  | 0, σ, _ => σ
  | j + 1, σ, n => mfl x j (mf1 σ n (fb x j)) (n + 1)
theorem n_dec (j : Nat) : nI (j + 1) + (-1 : Int32) = nI j := by
  rw [← Int32.sub_eq_add_neg, q_1, q_sub (by omega)]; rfl
theorem cfl_3 (x : Int64) : ∀ (j : Nat) (σ : hbM) (n : Nat), σ 39 3 = nI n → cfl x j σ n 39 3 = nI (n + j) := by
  intro j
  induction j with
  | zero => intro σ n h; exact h
  | succ j ih =>
    intro σ n h
    show cfl x j (cf1 σ n (fb x j)) (n + 1) 39 3 = _
    rw [ih (cf1 σ n (fb x j)) (n + 1) (um_s _ _ _ _)]; exact congrArg nI (by omega)
theorem mfl_23 (x : Int64) : ∀ (j : Nat) (σ : hbM) (n : Nat), σ 54 23 = nI n → mfl x j σ n 54 23 = nI (n + j) := by
  intro j
  induction j with
  | zero => intro σ n h; exact h
  | succ j ih =>
    intro σ n h
    show mfl x j (mf1 σ n (fb x j)) (n + 1) 54 23 = _
    rw [ih (mf1 σ n (fb x j)) (n + 1) (um_s _ _ _ _)]; exact congrArg nI (by omega)
theorem cfl_c (x : Int64) : ∀ (j : Nat) (σ : hbM) (n : Nat) {c : Nat}, c ≠ 39 → c ≠ 40 → cfl x j σ n c = σ c := by
  intro j
  induction j with
  | zero => intro σ n c _ _; rfl
  | succ j ih =>
    intro σ n c h1 h2
    show cfl x j (cf1 σ n (fb x j)) (n + 1) c = _
    rw [ih _ _ h1 h2]; unfold cf1; rw [um_c _ _ _ h1, um_c _ _ _ h2]
theorem mfl_c (x : Int64) : ∀ (j : Nat) (σ : hbM) (n : Nat) {c : Nat}, c ≠ 54 → c ≠ 67 → mfl x j σ n c = σ c := by
  intro j
  induction j with
  | zero => intro σ n c _ _; rfl
  | succ j ih =>
    intro σ n c h1 h2
    show mfl x j (mf1 σ n (fb x j)) (n + 1) c = _
    rw [ih _ _ h1 h2]; unfold mf1; rw [um_c _ _ _ h1, um_c _ _ _ h2]
theorem mfl_i (x : Int64) : ∀ (j : Nat) (σ : hbM) (n : Nat) {i : Nat}, i ≠ 23 → mfl x j σ n 54 i = σ 54 i := by
  intro j
  induction j with
  | zero => intro σ n i _; rfl
  | succ j ih =>
    intro σ n i h
    show mfl x j (mf1 σ n (fb x j)) (n + 1) 54 i = _
    rw [ih _ _ h]; unfold mf1; rw [um_i _ _ _ h, um_c _ _ _ (by omega)]
theorem fl_l (x : Int64) : ∀ (j : Nat) (σ σ' : hbM) (n : Nat), (∀ i, i < n → ∃ b, b < 256 ∧ σ 40 i = nI b ∧ σ' 67 i = nI b) → ∀ i, i < n + j → ∃ b, b < 256 ∧ cfl x j σ n 40 i = nI b ∧ mfl x j σ' n 67 i = nI b := by
  intro j
  induction j with
  | zero => intro σ σ' n h i hi; exact h i hi
  | succ j ih =>
    intro σ σ' n h i hi
    refine ih (cf1 σ n (fb x j)) (mf1 σ' n (fb x j)) (n + 1) (fun k hk => ?_) i (by omega)
    unfold cf1 mf1
    rw [um_c _ _ _ (show (40 : Nat) ≠ 39 by omega), um_c _ _ _ (show (67 : Nat) ≠ 54 by omega), um_at, um_at]
    by_cases q : k = n
    · rw [if_pos q, if_pos q]; exact ⟨_, fb_lt x j, rfl, rfl⟩
    · rw [if_neg q, if_neg q]; exact h k (by omega)
theorem s43_loop (x : Int64) (x3 : Int32) : ∀ (j : Nat) (σ : hbM) (n : Nat), n + j ≤ 400 → σ 39 3 = nI n →
    hb_run hbSH 43 (19, [.ref 39, .long x, .null, .int x3, .int (nI j + (-1 : Int32))], [], σ) = some (some (.int 1), cfl x j σ n) := by
  intro j
  induction j with
  | zero => intro σ n _ _; rw [e43_19, if_pos (by decide)]; rfl
  | succ j ih =>
    intro σ n hn h
    have hp : ¬ nI j < (0 : Int32) := by rw [q_0, q_lt (by omega) (by omega)]; omega
    rw [n_dec, e43_19, if_neg hp, h, q_inT (by omega) (by omega), hb_g_t, hb_g_nil, q_cl (by omega), fb_c, nI_1]
    exact ih (cf1 σ n (fb x j)) (n + 1) (by omega) (um_s _ _ _ _)
theorem s119_loop (x : Int64) (x3 : Int32) : ∀ (j : Nat) (σ : hbM) (n : Nat), n + j ≤ 400 → σ 54 23 = nI n →
    hb_run hbSH 119 (40, [.ref 54, .long x, .null, .int x3, .int (nI j + (-1 : Int32))], [], σ) = some (some (.int (nI (n + j))), mfl x j σ n) := by
  intro j
  induction j with
  | zero => intro σ n _ h; rw [e119_40, if_pos (by decide), h]; rfl
  | succ j ih =>
    intro σ n hn h
    have hp : ¬ nI j < (0 : Int32) := by rw [q_0, q_lt (by omega) (by omega)]; omega
    rw [n_dec, e119_40, if_neg hp, h, q_inT (by omega) (by omega), hb_g_t, hb_g_nil, q_cl (by omega), fb_m, nI_1]
    have := ih (mf1 σ n (fb x j)) (n + 1) (by omega) (um_s _ _ _ _)
    rw [show n + 1 + j = n + (j + 1) by omega] at this
    exact this
theorem s_18 (x : Int32) : decide ((1 : Int64) ≤ x.toInt64 ∧ x.toInt64 ≤ 8) = decide (1 ≤ x.toInt ∧ x.toInt ≤ 8) := by
  apply decide_eq_decide.mpr
  rw [Int64.le_iff_toInt_le, Int64.le_iff_toInt_le, Int32.toInt_toInt64]
  exact Iff.rfl
theorem feed_J {n : Nat} {σ : hbM} (hJ : J n σ) {t : Nat} (x : Int64) {j : Nat} (htj : t + j ≤ 400) (t2 : σ 39 3 = nI t) (t3 : σ 54 23 = nI t) (t4 : ∀ i, i < t → ∃ b, b < 256 ∧ σ 40 i = nI b ∧ σ 67 i = nI b) : J (n + 1) (mfl x j (hb_up (cfl x j σ t) 54 0 0) t) := by
  obtain ⟨_, h2, h3, h4, h5, h6⟩ := hJ.1
  have e : ∀ c, c ≠ 39 → c ≠ 40 → c ≠ 54 → c ≠ 67 → mfl x j (hb_up (cfl x j σ t) 54 0 0) t c = σ c := fun c q1 q2 q3 q4 => by
    rw [mfl_c _ _ _ _ q3 q4, um_c _ _ _ q3, cfl_c _ _ _ _ q1 q2]
  have e54 : ∀ i, i ≠ 0 → i ≠ 23 → mfl x j (hb_up (cfl x j σ t) 54 0 0) t 54 i = σ 54 i := fun i q1 q2 => by
    rw [mfl_i _ _ _ _ q2, um_i _ _ _ q1, cfl_c _ _ _ _ (by omega) (by omega)]
  refine ⟨J0_x hJ.1 (fun c hc => e c (by omega) (by omega) (by omega) (by omega)) (by rw [e 31 (by omega) (by omega) (by omega) (by omega)]) (fun i hi => e54 i (by omega) (by omega)) ?_ ?_ ?_ ?_, jR_gen (fun c hc => e c (by omega) (by omega) (by omega) (by omega)) hJ.2⟩
  · refine ⟨t + j, htj, ?_, ?_, fun i hi => ?_⟩
    · rw [mfl_c _ _ _ _ (by omega) (by omega), um_c _ _ _ (by omega), cfl_3 _ _ _ _ t2]
    · refine mfl_23 _ _ _ _ ?_
      rw [um_i _ _ _ (by omega), cfl_c _ _ _ _ (by omega) (by omega)]; exact t3
    · rw [mfl_c _ _ _ _ (show (40 : Nat) ≠ 54 by omega) (by omega), um_c _ _ _ (by omega)]
      refine fl_l x j σ _ t (fun k hk => ?_) i hi
      rw [um_c _ _ _ (by omega), cfl_c _ _ _ _ (show (67 : Nat) ≠ 39 by omega) (by omega)]
      exact t4 k hk
  · unfold jA; rw [e 31 (by omega) (by omega) (by omega) (by omega), e54 48 (by omega) (by omega), e 35 (by omega) (by omega) (by omega) (by omega), e 79 (by omega) (by omega) (by omega) (by omega)]; exact h4
  · intro s hs
    rw [e (15 + s) (by omega) (by omega) (by omega) (by omega), e 55 (by omega) (by omega) (by omega) (by omega), e 56 (by omega) (by omega) (by omega) (by omega), e (23 + s) (by omega) (by omega) (by omega) (by omega), e 57 (by omega) (by omega) (by omega) (by omega)]
    exact h5 s hs
  · unfold jF; rw [e 13 (by omega) (by omega) (by omega) (by omega), e54 1 (by omega) (by omega), e54 24 (by omega) (by omega)]; exact h6
theorem o_feed {n : Nat} {σ : hbM} (hJ : J n σ) (x : Int64) (y : Int32) : Ok2 n 82 119 [.long x, .int y] σ := by
  obtain ⟨⟨_, _, ⟨t, t1, t2, t3, t4⟩, _⟩, _⟩ := id hJ
  have c1 : (y < (1 : Int32)) = (y.toInt < 1) := propext Int32.lt_iff_toInt_lt
  have c2 : (y ≤ (8 : Int32)) = (y.toInt ≤ 8) := propext Int32.le_iff_toInt_le
  by_cases hy : 1 ≤ y.toInt ∧ y.toInt ≤ 8
  · obtain ⟨j, hj, rfl⟩ := nI_of (x := y) (by rw [Int32.lt_iff_toInt_lt]; have := hy.1; show ¬ y.toInt < 0; omega)
    rw [q_ti (by omega)] at hy c1 c2
    have d1 : (nI j ≤ (400 : Int32) - nI t) = (t + j ≤ 400) := by
      rw [q_400, q_sub (by omega), q_le (by omega) (by omega)]; exact propext (by omega)
    have d2 : (nI t + nI j ≤ (400 : Int32)) = (t + j ≤ 400) := by
      rw [q_400, q_add, q_le (by omega) (by omega)]
    have e23 : hb_up σ 54 0 0 54 23 = nI t := by rw [um_i _ _ _ (by omega)]; exact t3
    by_cases htj : t + j ≤ 400
    · have u23 : hb_up (cfl x j σ t) 54 0 0 54 23 = nI t := by rw [um_i _ _ _ (by omega), cfl_c _ _ _ _ (by omega) (by omega)]; exact t3
      refine ⟨nI (t + j), cfl x j σ t, mfl x j (hb_up (cfl x j σ t) 54 0 0) t, ?_, ?_, feed_J hJ x htj t2 t3 t4⟩
      · rw [v82, e82_0, if_neg (by rw [c1]; omega), if_pos (by rw [c2]; omega), v43, e43_0, t2, if_pos (by rw [d1]; exact htj), Int32.sub_eq_add_neg, s43_loop x _ j σ t htj t2, hb_ci_s, if_neg (by decide), cfl_3 _ _ _ _ t2]
      · rw [v119, e119_0, s112, hb_ci_s, s_18, q_ti (by omega), decide_eq_true hy, hbb_t, if_pos (by decide), u23, if_pos (by rw [d2]; exact htj), Int32.sub_eq_add_neg, s119_loop x _ j _ t htj u23]
    · refine Ok2.rd hJ (r := -1000003) ?_ ?_
      · rw [v82, e82_0, if_neg (by rw [c1]; omega), if_pos (by rw [c2]; omega), v43, e43_0, t2, if_neg (by rw [d1]; exact htj), hb_ci_s, if_pos rfl]
      · rw [v119, e119_0, s112, hb_ci_s, s_18, q_ti (by omega), decide_eq_true hy, hbb_t, if_pos (by decide), e23, if_neg (by rw [d2]; exact htj)]
  · refine Ok2.rd hJ (r := -1000001) ?_ ?_
    · rw [v82, e82_0]
      by_cases g1 : y.toInt < 1
      · rw [if_pos (by rw [c1]; exact g1)]
      · rw [if_neg (by rw [c1]; exact g1), if_neg (by rw [c2]; omega)]
    · rw [v119, e119_0, s112, hb_ci_s, s_18, decide_eq_false hy]; rfl
