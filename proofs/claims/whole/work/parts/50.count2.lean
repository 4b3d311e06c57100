/-! count: the call -/
theorem m16 {a : Nat} (ha : a < 65536) (M : Nat) : a &&& M = a &&& (65535 &&& M) := by
  rw [← Nat.and_assoc]
  have : a &&& 65535 = a := by rw [Nat.and_two_pow_sub_one_eq_mod a 16]; exact Nat.mod_eq_of_lt ha
  rw [this]
theorem bcS_le (x : Nat) : bcS x ≤ 8 := by unfold bcS; omega
theorem s188 (σ : hbM) {b : Nat} (hb : b < 65536) : hb_ev hbSH 188 [.int (nI b)] σ = some (some (.int (nI (bcS (b / 256) + bcS (b % 256)))), σ) := by
  have u1 : ∀ a, a < 4294967296 → (Int32.toUInt32 (nI a) >>> (Int32.toUInt32 1 &&& Int32.toUInt32 31)).toInt32 = nI (a / 2) := fun a h => pk_ushrN h 1 1 (by decide)
  have u2 : ∀ a, a < 4294967296 → (Int32.toUInt32 (nI a) >>> (Int32.toUInt32 2 &&& Int32.toUInt32 31)).toInt32 = nI (a / 4) := fun a h => pk_ushrN h 2 2 (by decide)
  have u4 : ∀ a, a < 4294967296 → (Int32.toUInt32 (nI a) >>> (Int32.toUInt32 4 &&& Int32.toUInt32 31)).toInt32 = nI (a / 16) := fun a h => pk_ushrN h 4 4 (by decide)
  have u8 : ∀ a, a < 4294967296 → (Int32.toUInt32 (nI a) >>> (Int32.toUInt32 8 &&& Int32.toUInt32 31)).toInt32 = nI (a / 256) := fun a h => pk_ushrN h 8 8 (by decide)
  have u16 : ∀ a, a < 4294967296 → (Int32.toUInt32 (nI a) >>> (Int32.toUInt32 16 &&& Int32.toUInt32 31)).toInt32 = nI (a / 65536) := fun a h => pk_ushrN h 16 16 (by decide)
  have k5 : (1431655765 : Int32) = nI 1431655765 := rfl
  have k3 : (858993459 : Int32) = nI 858993459 := rfl
  have kf : (252645135 : Int32) = nI 252645135 := rfl
  have hle : (b / 2) &&& 21845 ≤ b / 2 := Nat.and_le_left
  have h1 : nI b - (nI (b / 2) &&& (1431655765 : Int32)) = nI (b - ((b / 2) &&& 21845)) := by
    rw [k5, q_and, m16 (by omega), show 65535 &&& 1431655765 = 21845 from rfl, q_sub (by omega)]
  have hF := bc16 (b / 256) (by omega) (b % 256) (by omega)
  rw [show 256 * (b / 256) + b % 256 = b by omega] at hF
  have hF := Nat.eq_of_beq_eq_true hF
  unfold bcF at hF
  have p1 := bcS_le (b / 256)
  have p2 := bcS_le (b % 256)
  generalize bcS (b / 256) = P at hF p1 ⊢
  generalize bcS (b % 256) = Q at hF p2 ⊢
  have hy : b - ((b / 2) &&& 21845) < 65536 := by omega
  rw [v188, e188_0, u1 b (by omega), h1]
  generalize b - ((b / 2) &&& 21845) = y at hF hy ⊢
  have hz1 : y &&& 13107 ≤ 13107 := Nat.and_le_right
  have hz2 : (y / 4) &&& 13107 ≤ 13107 := Nat.and_le_right
  have h2 : (nI y &&& (858993459 : Int32)) + (nI (y / 4) &&& (858993459 : Int32)) = nI ((y &&& 13107) + ((y / 4) &&& 13107)) := by
    rw [k3, q_and, q_and, m16 hy, m16 (show y / 4 < 65536 by omega), show 65535 &&& 858993459 = 13107 from rfl, q_add]
  rw [u2 y (by omega), h2]
  have hz : (y &&& 13107) + ((y / 4) &&& 13107) < 32768 := by omega
  generalize (y &&& 13107) + ((y / 4) &&& 13107) = z at hF hz ⊢
  have h3 : (nI z + nI (z / 16)) &&& (252645135 : Int32) = nI (256 * P + Q) := by
    rw [kf, q_add, q_and, m16 (by omega), show 65535 &&& 252645135 = 3855 from rfl, hF]
  rw [u4 z (by omega), h3]
  have h4 : nI (256 * P + Q) + nI ((256 * P + Q) / 256) = nI (256 * P + Q + P) := by
    rw [q_add]; exact congrArg nI (by omega)
  rw [u8 _ (by omega), h4, u16 _ (by omega), q_63, q_add, q_and, Nat.and_two_pow_sub_one_eq_mod _ 6]
  have h5 : (256 * P + Q + P) / 65536 = 0 := Nat.div_eq_of_lt (by omega)
  have h6 : (256 * P + Q + P + 0) % 2 ^ 6 = P + Q := by
    rw [show 256 * P + Q + P + 0 = 64 * (4 * P) + (P + Q) by omega, show (2 ^ 6 : Nat) = 64 from rfl, Nat.mul_add_mod]
    exact Nat.mod_eq_of_lt (by omega)
  rw [h5]
  exact q_res _ h6
def bsum (b : Nat) : Nat → Nat
  | 0 => 0
  | n + 1 => bsum b n + b / 2 ^ n % 2
theorem bsum_le (b : Nat) : ∀ n, bsum b n ≤ n := by
  intro n
  induction n with
  | zero => exact Nat.le_refl _
  | succ n ih => simp only [bsum]; omega
theorem bsum_16 (b : Nat) : bsum b 16 = bcS (b / 256) + bcS (b % 256) := by
  have e0 : b % 256 % 2 = b / 1 % 2 := by omega
  have e1 : b % 256 / 2 % 2 = b / 2 % 2 := by omega
  have e2 : b % 256 / 4 % 2 = b / 4 % 2 := by omega
  have e3 : b % 256 / 8 % 2 = b / 8 % 2 := by omega
  have e4 : b % 256 / 16 % 2 = b / 16 % 2 := by omega
  have e5 : b % 256 / 32 % 2 = b / 32 % 2 := by omega
  have e6 : b % 256 / 64 % 2 = b / 64 % 2 := by omega
  have e7 : b % 256 / 128 % 2 = b / 128 % 2 := by omega
  unfold bcS
  rw [e0, e1, e2, e3, e4, e5, e6, e7]
  simp only [Nat.div_div_eq_div_mul, Nat.reduceMul]
  simp only [bsum, Nat.reducePow]
  omega
theorem s186_bits {σ : hbM} {b : Nat} (hb : b < 65536) (h : σ 54 34 = nI b) (x1 : Int32) : ∀ (j i : Nat), i + j = 16 → hb_run hbSH 186 (107, [.ref 54, .int x1, .int (nI (bsum b i)), .int (nI i)], [], σ) = some (some (.int (nI (bsum b 16))), σ) := by
  intro j
  induction j with
  | zero =>
    intro i hi
    obtain rfl : i = 16 := by omega
    rw [e186_107, if_pos (by decide)]
  | succ j ih =>
    intro i hi
    rw [e186_107, if_neg (by rw [q_16, q_le (by omega) (by omega)]; omega), h, q_shr (by omega) (by omega), nI_1, show (nI (b / 2 ^ i) &&& (1 : Int32)) = nI (b / 2 ^ i % 2) by rw [q_1, q_and, q_a1], q_add]
    exact ih (i + 1) (by omega)
def cntS (σ : hbM) : Nat → Nat
  | 0 => 0
  | n + 1 => cntS σ n + (if σ (15 + n) 1 = 1 then 1 else 0)
theorem cntS_le (σ : hbM) : ∀ n, cntS σ n ≤ n := by
  intro n
  induction n with
  | zero => exact Nat.le_refl _
  | succ n ih => simp only [cntS]; split <;> omega
theorem s107_loop {σ : hbM} (h : jS σ) : ∀ (j i : Nat), i + j = 8 → hb_run hbSH 107 (4, [.ref 13, .int (nI (cntS σ i)), .int (nI i)], [], σ) = some (some (.int (nI (cntS σ 8))), σ) := by
  intro j
  induction j with
  | zero =>
    intro i hi
    obtain rfl : i = 8 := by omega
    rw [e107_4g, if_pos (by decide)]
  | succ j ih =>
    intro i hi
    have ih1 := ih (i + 1) (by omega)
    simp only [cntS] at ih1
    rw [e107_4s i (by omega), if_neg (by rw [q_8, q_le (by omega) (by omega)]; omega), q_inT (by omega) (by omega), hb_g_t, hb_g_nil, nI_1]
    rcases sh_t h (show i < 8 by omega) with ⟨t1, _⟩ | ⟨t1, _⟩
    · rw [t1, if_neg (by decide)] at ih1
      have e := s111 hbSH1 σ false
      rw [hbb_f] at e
      rw [t1, e, hb_ci_s, i_0]; exact ih1
    · rw [t1, if_pos rfl] at ih1
      have e := s111 hbSH1 σ true
      rw [hbb_t] at e
      rw [t1, e, hb_ci_s, nI_1]; exact ih1
theorem s186_sh {σ σ' : hbM} (h : jS σ) (h55 : σ' 55 = σ 55) (x1 : Int32) : ∀ (j i : Nat), i + j = 8 → hb_run hbSH 186 (54, [.ref 54, .int x1, .int (nI (cntS σ i)), .int (nI i)], [], σ') = some (some (.int (nI (cntS σ 8))), σ') := by
  intro j
  induction j with
  | zero =>
    intro i hi
    obtain rfl : i = 8 := by omega
    rw [e186_54, if_pos (by decide)]
  | succ j ih =>
    intro i hi
    have ih1 := ih (i + 1) (by omega)
    simp only [cntS] at ih1
    rw [e186_54, if_neg (by rw [q_8, q_le (by omega) (by omega)]; omega), q_inT (by omega) (by omega), hb_g_t, hb_g_nil, q_cl (by omega), h55, i_0, nI_1, nI_1]
    rcases sh_t h (show i < 8 by omega) with ⟨t1, t2⟩ | ⟨t1, l, l1, l2, l3⟩
    · rw [t1, if_neg (by decide)] at ih1
      rw [t2, if_pos (by decide)]; exact ih1
    · rw [t1, if_pos rfl] at ih1
      rw [l3, if_neg (by rw [q_0, q_lt (by omega) (by omega)]; omega)]; exact ih1
theorem o_count {n : Nat} {σ : hbM} (hJ : J n σ) (x : Int32) : Ok2 n 103 186 [.int x] σ := by
  obtain ⟨⟨F, B, G, w⟩, _, ⟨t, t1, t2, t3, t4⟩, _, h5, h6⟩ := hJ.1
  obtain ⟨b, b1, b2, b3⟩ := jW_b w
  have km := (jW_kM w).1
  have kc := (jW_kC w).1
  obtain ⟨w1, w2, w3, w4, w5, w6, w7, w8, w9⟩ := w
  by_cases x0 : x = 0
  · refine Ok2.rd hJ (r := nI (cntS σ 8)) ?_ ?_
    · rw [v103, e103_0, if_pos x0, v107, e107_0g]
      have := s107_loop h5 8 0 (by omega)
      simp only [cntS] at this
      rw [show nI 0 = (0 : Int32) from rfl] at this
      rw [this, hb_ci_s]; rfl
    · rw [v186, e186_0, if_pos x0]
      have := s186_sh h5 (σ' := hb_up σ 54 0 0) (um_c _ _ _ (by omega)) x 8 0 (by omega)
      exact this
  · by_cases x1 : x = 1
    · refine Ok2.rd hJ (r := σ 31 4) ?_ ?_
      · rw [v103, e103_0, if_neg x0, if_pos x1]
      · rw [v186, e186_0, if_neg x0, if_pos x1, km, kc]
    · by_cases x2 : x = 2
      · refine Ok2.rd hJ (r := σ 0 8) ?_ ?_
        · rw [v103, e103_0, if_neg x0, if_neg x1, if_pos x2]
        · rw [v186, e186_0, if_neg x0, if_neg x1, if_pos x2, w2.1.2.1, w7.1]
      · by_cases x3 : x = 3
        · refine Ok2.rd hJ (r := σ 1 2) ?_ ?_
          · rw [v103, e103_0, if_neg x0, if_neg x1, if_neg x2, if_pos x3]
          · rw [v186, e186_0, if_neg x0, if_neg x1, if_neg x2, if_pos x3, w3.2.1, w8.1]
        · by_cases x4 : x = 4
          · refine Ok2.rd hJ (r := σ 4 2) ?_ ?_
            · rw [v103, e103_0, if_neg x0, if_neg x1, if_neg x2, if_neg x3, if_pos x4]
            · rw [v186, e186_0, if_neg x0, if_neg x1, if_neg x2, if_neg x3, if_pos x4, w4.2.1, w9.1]
          · by_cases x5 : x = 5
            · refine Ok2.rd hJ (r := nI (bsum b 16)) ?_ ?_
              · rw [v103, e103_0, if_neg x0, if_neg x1, if_neg x2, if_neg x3, if_neg x4, if_pos x5, b2, s188 σ b1, hb_ci_s, bsum_16]
              · rw [v186, e186_0, if_neg x0, if_neg x1, if_neg x2, if_neg x3, if_neg x4, if_pos x5]
                exact s186_bits b1 (by rw [um_i _ _ _ (by omega)]; exact b3) x 16 0 (by omega)
            · by_cases x6 : x = 6
              · refine Ok2.rd hJ (r := σ 39 3) ?_ ?_
                · rw [v103, e103_0, if_neg x0, if_neg x1, if_neg x2, if_neg x3, if_neg x4, if_neg x5, if_pos x6]
                · rw [v186, e186_0, if_neg x0, if_neg x1, if_neg x2, if_neg x3, if_neg x4, if_neg x5, if_pos x6, t3, t2]
              · refine Ok2.rd hJ (r := -1000001) ?_ ?_
                · rw [v103, e103_0, if_neg x0, if_neg x1, if_neg x2, if_neg x3, if_neg x4, if_neg x5, if_neg x6]
                · rw [v186, e186_0, if_neg x0, if_neg x1, if_neg x2, if_neg x3, if_neg x4, if_neg x5, if_neg x6]
