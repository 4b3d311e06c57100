/-! WHAT THE SMALL METHODS OF THE REFERENCE ANSWER -/
def iI (z : Int) : Int32 := Int32.ofInt z
theorem i_ti {z : Int} (h1 : -2147483648 ≤ z) (h2 : z < 2147483648) : (iI z).toInt = z := Int32.toInt_ofInt_of_le (by omega) (by omega)
theorem i_n (n : Nat) : iI (n : Int) = nI n := by
  apply q_inj
  show (Int32.ofInt (n : Int)).toBitVec = (Int32.ofNat n).toBitVec
  rw [Int32.toBitVec_ofInt, Int32.toBitVec_ofNat', BitVec.ofInt_natCast]
theorem i_add (a b : Int) : iI a + iI b = iI (a + b) := (Int32.ofInt_add a b).symm
theorem i_le {a b : Int} (h1 : -2147483648 ≤ a) (h2 : a < 2147483648) (h3 : -2147483648 ≤ b) (h4 : b < 2147483648) : (iI a ≤ iI b) = (a ≤ b) := by
  rw [Int32.le_iff_toInt_le, i_ti h1 h2, i_ti h3 h4]
theorem i_lt {a b : Int} (h1 : -2147483648 ≤ a) (h2 : a < 2147483648) (h3 : -2147483648 ≤ b) (h4 : b < 2147483648) : (iI a < iI b) = (a < b) := by
  rw [Int32.lt_iff_toInt_lt, i_ti h1 h2, i_ti h3 h4]
/-- flows: how many, their valves, heights, by how much -/
abbrev hbF : Type := Nat × (Nat → Nat) × (Nat → Nat) × (Nat → Int)
def wRise (F : hbF) (op ht : Nat) : Nat → Int
  | 0 => 0
  | n + 1 => wRise F op ht n + (if F.2.2.1 n = ht ∧ op / 2 ^ F.2.1 n % 2 = 1 then F.2.2.2 n else 0)
def cl7 (z : Int) : Nat := if z < 0 then 0 else if 7 < z then 7 else z.toNat
theorem cl7_lt (z : Int) : cl7 z < 8 := by
  unfold cl7
  split
  · omega
  · split <;> omega
def wTick (F : hbF) (st : Nat) : Nat := st % 16 + 16 * cl7 ((st / 16 % 8 : Nat) + wRise F (st % 16) 0 F.1) + 128 * cl7 ((st / 128 % 8 : Nat) + wRise F (st % 16) 1 F.1)
def wFok (F : hbF) : Prop := F.1 ≤ 8 ∧ ∀ i, i < F.1 → F.2.1 i < 4 ∧ F.2.2.1 i < 2 ∧ (F.2.2.2 i = 1 ∨ F.2.2.2 i = -1)
theorem wRise_b {F : hbF} (h : wFok F) (op ht : Nat) : ∀ n, n ≤ F.1 → -(n : Int) ≤ wRise F op ht n ∧ wRise F op ht n ≤ n := by
  intro n
  induction n with
  | zero => intro _; simp [wRise]
  | succ n ih =>
    intro hn
    have h1 := ih (by omega)
    have h2 := (h.2 n (by omega)).2.2
    simp only [wRise]
    split <;> omega
theorem wTick_lt (F : hbF) (st : Nat) : wTick F st < 1024 := by
  unfold wTick
  have := cl7_lt ((st / 16 % 8 : Nat) + wRise F (st % 16) 0 F.1)
  have := cl7_lt ((st / 128 % 8 : Nat) + wRise F (st % 16) 1 F.1)
  omega
/-- the reference holds the flows F -/
def mF (σ : hbM) (F : hbF) : Prop := wFok F ∧ σ 54 5 = nI F.1 ∧ ∀ i, i < F.1 → σ 58 i = nI (F.2.1 i) ∧ σ 59 i = nI (F.2.2.1 i) ∧ σ 60 i = iI (F.2.2.2 i)
theorem s141 (σ : hbM) {st h : Nat} (hs : st < 1024) (hh : h < 8) : hb_ev hbSH 141 [.int (nI st), .int (nI h)] σ = some (some (.int (nI (st / 2 ^ (4 + 3 * h) % 8))), σ) := by
  rw [v141, e141_0]
  simp only [q_3, q_4, q_7]
  simp (disch := omega) only [q_mul, q_add, q_shr, q_and, q_a7]
theorem bit16 {st v : Nat} (hv : v < 4) : st / 2 ^ v % 2 = st % 16 / 2 ^ v % 2 := by
  rcases (show v = 0 ∨ v = 1 ∨ v = 2 ∨ v = 3 by omega) with rfl | rfl | rfl | rfl <;> simp only [Nat.reducePow] <;> omega
theorem s142_loop {σ : hbM} {F : hbF} (hF : mF σ F) {st ht : Nat} (hs : st < 1024) (hh : ht < 2) (x2 : Int32) {z : Nat} (hz : z < 8) : ∀ (j k : Nat), k + j = F.1 →
    hb_run hbSH 142 (22, [.ref 54, .int (nI st), .int x2, .int (nI ht), .int (iI (z + wRise F (st % 16) ht k)), .int (nI k)], [], σ) =
      hb_run hbSH 142 (7, [.ref 54, .int (nI st), .int (x2 ||| (nI (cl7 (z + wRise F (st % 16) ht F.1)) <<< ((4 + 3 * nI ht : Int32) &&& 31))), .int (nI (ht + 1)), .int (nI (cl7 (z + wRise F (st % 16) ht F.1))), .int (nI F.1)], [], σ) := by
  obtain ⟨hok, hn, hi⟩ := hF
  have hn8 := hok.1
  intro j
  induction j with
  | zero =>
    intro k hk
    obtain rfl : k = F.1 := by omega
    have hb := wRise_b hok (st % 16) ht F.1 (Nat.le_refl _)
    generalize wRise F (st % 16) ht F.1 = r at hb ⊢
    rw [e142_22, hn, if_pos (by rw [q_le (by omega) (by omega)]; omega)]
    have e7 : (7 : Int32) = iI 7 := by decide
    have e0 : (0 : Int32) = iI 0 := by decide
    have c1 : ((0 : Int32) ≤ iI (z + r)) = (0 ≤ (z : Int) + r) := by rw [e0, i_le (by omega) (by omega) (by omega) (by omega)]
    have c2 : (iI (z + r) ≤ (7 : Int32)) = ((z : Int) + r ≤ 7) := by rw [e7, i_le (by omega) (by omega) (by omega) (by omega)]
    simp only [c1, c2]
    unfold cl7
    by_cases g1 : 0 ≤ (z : Int) + r
    · rw [if_pos g1]
      by_cases g2 : (z : Int) + r ≤ 7
      · rw [if_pos g2, if_neg (by omega), if_neg (by omega), e142_102, nI_1]
        have : iI (z + r) = nI ((z : Int) + r).toNat := by rw [← i_n]; congr 1; omega
        rw [this]
      · rw [if_neg g2, if_neg (by omega), if_pos (by omega), e142_102, nI_1]; rfl
    · rw [if_neg g1, if_pos (by omega), e142_102, nI_1]; rfl
  | succ j ih =>
    intro k hk
    have ih1 := ih (k + 1) (by omega)
    obtain ⟨f1, f2, f3⟩ := hi k (by omega)
    obtain ⟨o1, o2, o3⟩ := hok.2 k (by omega)
    have hin : hb_in (nI k) 8 = true := q_inT (by omega) (by omega)
    rw [e142_22, hn, if_neg (by rw [q_le (by omega) (by omega)]; omega), hin, hb_g_t, hb_g_nil, hb_g_t, hb_g_t, hb_g_nil, q_cl (by omega), f1, f2, f3]
    have c1 : (nI (F.2.2.1 k) = nI ht) = (F.2.2.1 k = ht) := q_eq (by omega) (by omega)
    have c2 : (nI st >>> (nI (F.2.1 k) &&& 31) &&& (1 : Int32) = 1) = (st % 16 / 2 ^ F.2.1 k % 2 = 1) := by
      rw [q_shr (by omega) (by omega), q_1, q_and, q_a1, q_eq (by omega) (by omega), bit16 o1]
    simp only [c1, c2]
    have e0 : (0 : Int32) = iI 0 := by decide
    rw [nI_1, i_add, e0, i_add]
    simp only [wRise] at ih1
    by_cases g1 : F.2.2.1 k = ht
    · by_cases g2 : st % 16 / 2 ^ F.2.1 k % 2 = 1
      · rw [if_neg (fun q => q g1), if_neg (fun q => q g2)]
        rw [if_pos ⟨g1, g2⟩, ← Int.add_assoc] at ih1
        exact ih1
      · rw [if_neg (fun q => q g1), if_pos g2]
        rw [if_neg (fun q => g2 q.2), ← Int.add_assoc] at ih1
        exact ih1
    · rw [if_pos g1]
      rw [if_neg (fun q => g1 q.1), ← Int.add_assoc] at ih1
      exact ih1
/-- tickOf -/
theorem s142 {σ : hbM} {F : hbF} (hF : mF σ F) {st : Nat} (hs : st < 1024) : hb_ev hbSH 142 [.ref 54, .int (nI st)] σ = some (some (.int (nI (wTick F st))), σ) := by
  rw [v142, e142_0]
  have e15 : nI st &&& (15 : Int32) = nI (st % 16) := by rw [q_15, q_and, q_a15]
  have c0 := cl7_lt ((st / 16 % 8 : Nat) + wRise F (st % 16) 0 F.1)
  have c1 := cl7_lt ((st / 128 % 8 : Nat) + wRise F (st % 16) 1 F.1)
  have hl0 := s142_loop hF hs (ht := 0) (by omega) (nI (st % 16)) (z := st / 16 % 8) (by omega) F.1 0 (by omega)
  simp only [wRise, Int.add_zero, i_n, Nat.zero_add] at hl0
  have h4 : (4 + 3 * nI 0 : Int32) &&& 31 = nI 4 &&& 31 := by decide
  have h7 : (4 + 3 * nI 1 : Int32) &&& 31 = nI 7 &&& 31 := by decide
  rw [e15, e142_7, if_neg (by decide), q_0, s141 σ hs (by omega), hb_ci_s]
  have hp4 : st / 2 ^ (4 + 3 * 0) % 8 = st / 16 % 8 := rfl
  rw [hp4, hl0, h4, q_shl (by omega) (by simp only [Nat.reducePow]; omega), q_or, e142_7, if_neg (by decide), s141 σ hs (by omega), hb_ci_s]
  have hp7 : st / 2 ^ (4 + 3 * 1) % 8 = st / 128 % 8 := rfl
  have hl1 := s142_loop hF hs (ht := 1) (by omega) (nI (st % 16 ||| cl7 ((st / 16 % 8 : Nat) + wRise F (st % 16) 0 F.1) * 2 ^ 4)) (z := st / 128 % 8) (by omega) F.1 0 (by omega)
  simp only [wRise, Int.add_zero, i_n] at hl1
  rw [hp7, q_0, hl1, h7, q_shl (by omega) (by simp only [Nat.reducePow]; omega), q_or, e142_7, if_pos (by decide)]
  refine q_res _ ?_
  unfold wTick
  generalize cl7 ((st / 16 % 8 : Nat) + wRise F (st % 16) 0 F.1) = u at c0
  generalize cl7 ((st / 128 % 8 : Nat) + wRise F (st % 16) 1 F.1) = w at c1
  have e1 : st % 16 ||| u * 2 ^ 4 = st % 16 + 16 * u := by
    rw [Nat.or_comm, Nat.mul_comm, ← Nat.two_pow_add_eq_or_of_lt (by simp only [Nat.reducePow]; omega)]; omega
  have e2 : (st % 16 + 16 * u) ||| w * 2 ^ 7 = st % 16 + 16 * u + 128 * w := by
    rw [Nat.or_comm, Nat.mul_comm, ← Nat.two_pow_add_eq_or_of_lt (by simp only [Nat.reducePow]; omega)]; omega
  rw [e1, e2]

/-- a cond as the reference holds it -/
def cM (σ : hbM) (i : Nat) : Nat := 64 * tn σ 62 i + 8 * tn σ 63 i + tn σ 64 i
def mC (σ : hbM) (i : Nat) : Prop := hb_in (σ 62 i) 4 = true ∧ hb_in (σ 63 i) 8 = true ∧ hb_in (σ 64 i) 8 = true
theorem cM_lt {σ : hbM} {i : Nat} (h : mC σ i) : cM σ i < 256 := by
  have h1 : tn σ 62 i < 4 := (q_nn h.1 (by omega)).2
  have h2 : tn σ 63 i < 8 := (q_nn h.2.1 (by omega)).2
  have h3 : tn σ 64 i < 8 := (q_nn h.2.2 (by omega)).2
  unfold cM; omega
theorem s144 {σ : hbM} {i st : Nat} (hi : i < 40) (hs : st < 1024) (h : mC σ i) : hb_ev hbSH 144 [.ref 54, .int (nI i), .int (nI st)] σ = some (some (.int (hbb (gHold (cM σ i) st))), σ) := by
  obtain ⟨h1, h2, h3⟩ := h
  obtain ⟨e1, b1⟩ := q_nn h1 (by omega)
  obtain ⟨e2, b2⟩ := q_nn h2 (by omega)
  obtain ⟨e3, b3⟩ := q_nn h3 (by omega)
  have f1 : (σ 62 i).toNatClampNeg = tn σ 62 i := rfl
  have f2 : (σ 63 i).toNatClampNeg = tn σ 63 i := rfl
  have f3 : (σ 64 i).toNatClampNeg = tn σ 64 i := rfl
  rw [f1] at e1 b1
  rw [f2] at e2 b2
  rw [f3] at e3 b3
  have hin : hb_in (nI i) 40 = true := q_inT (by omega) hi
  have g1 : cM σ i / 64 = tn σ 62 i := by unfold cM; omega
  have g2 : cM σ i / 8 % 8 = tn σ 63 i := by unfold cM; omega
  have g3 : cM σ i % 8 = tn σ 64 i := by unfold cM; omega
  rw [v144, e144_0, hin, hb_g_t, hb_g_t, hb_g_nil, q_cl (by omega), e1, e2, s141 σ hs b2, hb_ci_s, hb_ci_s, hb_g_t, hb_g_nil, e3]
  unfold gHold
  rw [g1, g2, g3]
  simp only [q_0, q_1, q_2]
  simp (disch := omega) only [q_shr, q_and, q_a1, q_eq, q_le]
  by_cases k0 : tn σ 62 i = 0
  · by_cases k1 : st / 2 ^ tn σ 63 i % 2 = 1 <;> simp [k0, k1, hbb, q_0, q_1]
  · by_cases k2 : tn σ 62 i = 1
    · by_cases k1 : st / 2 ^ tn σ 63 i % 2 = 0 <;> simp [k2, k1, hbb, q_0, q_1]
    · by_cases k3 : tn σ 62 i = 2
      · by_cases k1 : tn σ 64 i < st / 2 ^ (4 + 3 * tn σ 63 i) % 8
        · simp [k3, k1, hbb, q_0, q_1, Nat.not_le.mpr k1]
        · simp [k3, k1, hbb, q_0, q_1, Nat.not_lt.mp k1]
      · by_cases k1 : st / 2 ^ (4 + 3 * tn σ 63 i) % 8 < tn σ 64 i
        · simp [k0, k2, k3, k1, hbb, q_0, q_1, Nat.not_le.mpr k1, hb_g]
        · simp [k0, k2, k3, k1, hbb, q_0, q_1, Nat.not_lt.mp k1, hb_g]
/-- all of n conds from base on -/
def wAll (c : Nat → Nat) (st base : Nat) : Nat → Bool
  | 0 => true
  | n + 1 => wAll c st base n && gHold (c (base + n)) st
theorem s145_loop {σ : hbM} {ln n st : Nat} (hl : ln < 8) (hn : n ≤ 3) (hs : st < 1024) (hz : σ 61 ln = nI n) (hC : ∀ i, i < n → mC σ (3 * ln + i)) : ∀ (j k : Nat), k + j = n →
    hb_run hbSH 145 (7, [.ref 54, .int (nI ln), .int (nI st), .int (hbb (wAll (cM σ) st (3 * ln) k)), .int (nI (3 * ln + k))], [], σ) = some (some (.int (hbb (wAll (cM σ) st (3 * ln) n))), σ) := by
  have hin : hb_in (nI ln) 8 = true := q_inT (by omega) hl
  have e3 : (3 : Int32) * nI ln + nI n = nI (3 * ln + n) := by rw [q_3, q_mul, q_add]
  intro j
  induction j with
  | zero =>
    intro k hk
    obtain rfl : k = n := by omega
    rw [e145_7, hin, hb_g_t, hb_g_nil, q_cl (by omega), hz, e3, if_pos (by rw [q_le (by omega) (by omega)]; omega), hbb_01, hb_g_t, hb_g_nil]
  | succ j ih =>
    intro k hk
    have ih1 := ih (k + 1) (by omega)
    rw [e145_7, hin, hb_g_t, hb_g_nil, q_cl (by omega), hz, e3, if_neg (by rw [q_le (by omega) (by omega)]; omega), s144 (by omega) hs (hC k (by omega)), hb_ci_s, nI_1]
    simp only [wAll] at ih1
    cases hw : wAll (cM σ) st (3 * ln) k with
    | false =>
      rw [hw] at ih1
      rw [if_pos (by decide)]
      exact ih1
    | true =>
      rw [hw] at ih1
      rw [if_neg (by decide)]
      cases hg : gHold (cM σ (3 * ln + k)) st with
      | false => rw [hg] at ih1; rw [if_pos (by decide)]; exact ih1
      | true => rw [hg] at ih1; rw [if_neg (by decide)]; exact ih1
/-- holdsLine -/
theorem s145 {σ : hbM} {ln n st : Nat} (hl : ln < 8) (hn : n ≤ 3) (hs : st < 1024) (hz : σ 61 ln = nI n) (hC : ∀ i, i < n → mC σ (3 * ln + i)) : hb_ev hbSH 145 [.ref 54, .int (nI ln), .int (nI st)] σ = some (some (.int (hbb (wAll (cM σ) st (3 * ln) n))), σ) := by
  rw [v145, e145_0, q_3, q_mul]
  exact s145_loop hl hn hs hz hC n 0 (by omega)
/-- lines: how many, their sizes, their conds (three a line) -/
abbrev hbL : Type := Nat × (Nat → Nat) × (Nat → Nat)
def wAny (L : hbL) (st : Nat) : Nat → Bool
  | 0 => false
  | n + 1 => wAny L st n || wAll L.2.2 st (3 * n) (L.2.1 n)
def wEvery (L : hbL) (st : Nat) : Nat → Bool
  | 0 => true
  | n + 1 => wEvery L st n && wAll L.2.2 st (3 * n) (L.2.1 n)
def wLok (L : hbL) : Prop := L.1 ≤ 4 ∧ ∀ i, i < L.1 → L.2.1 i ≤ 3 ∧ ∀ j, j < L.2.1 i → L.2.2 (3 * i + j) < 256
/-- the reference holds the lines L from line o on, their count in field f -/
def mL (σ : hbM) (L : hbL) (f o : Nat) : Prop := wLok L ∧ σ 54 f = nI L.1 ∧ ∀ i, i < L.1 → σ 61 (o + i) = nI (L.2.1 i) ∧ ∀ j, j < L.2.1 i → mC σ (3 * (o + i) + j) ∧ cM σ (3 * (o + i) + j) = L.2.2 (3 * i + j)
theorem wAll_eq {c d : Nat → Nat} {st a b : Nat} : ∀ n, (∀ i, i < n → c (a + i) = d (b + i)) → wAll c st a n = wAll d st b n := by
  intro n
  induction n with
  | zero => intro _; rfl
  | succ n ih =>
    intro h
    simp only [wAll]
    rw [ih (fun i hi => h i (by omega)), h n (by omega)]
theorem s146_loop {σ : hbM} {L : hbL} (hL : mL σ L 9 0) {st : Nat} (hs : st < 1024) : ∀ (j k : Nat), k + j = L.1 →
    hb_run hbSH 146 (4, [.ref 54, .int (nI st), .int (hbb (wAny L st k)), .int (nI k)], [], σ) = some (some (.int (hbb (wAny L st L.1))), σ) := by
  obtain ⟨hok, hn, hi⟩ := hL
  have h4 := hok.1
  intro j
  induction j with
  | zero =>
    intro k hk
    obtain rfl : k = L.1 := by omega
    rw [e146_4, hn, if_pos (by rw [q_le (by omega) (by omega)]; omega), hbb_01, hb_g_t, hb_g_nil]
  | succ j ih =>
    intro k hk
    have ih1 := ih (k + 1) (by omega)
    obtain ⟨f1, f2⟩ := hi k (by omega)
    rw [Nat.zero_add] at f1 f2
    have hsz := (hok.2 k (by omega)).1
    rw [e146_4, hn, if_neg (by rw [q_le (by omega) (by omega)]; omega), s145 (by omega) hsz hs f1 (fun i h => (f2 i h).1), hb_ci_s, nI_1, wAll_eq (d := L.2.2) (b := 3 * k) _ (fun i h => (f2 i h).2)]
    simp only [wAny] at ih1
    cases hw : wAny L st k with
    | true => rw [hw] at ih1; rw [if_pos (by decide)]; exact ih1
    | false =>
      rw [hw] at ih1
      rw [if_neg (by decide)]
      cases hg : wAll L.2.2 st (3 * k) (L.2.1 k) with
      | false => rw [hg] at ih1; rw [if_pos (by decide)]; exact ih1
      | true => rw [hg] at ih1; rw [if_neg (by decide)]; exact ih1
/-- isBadState -/
theorem s146 {σ : hbM} {L : hbL} (hL : mL σ L 9 0) {st : Nat} (hs : st < 1024) : hb_ev hbSH 146 [.ref 54, .int (nI st)] σ = some (some (.int (hbb (wAny L st L.1))), σ) := by
  rw [v146, e146_0]
  exact s146_loop hL hs L.1 0 (by omega)
def wGood (B G : hbL) (st : Nat) : Bool := !wAny B st B.1 && wEvery G st G.1
theorem s147_loop {σ : hbM} {G : hbL} (hL : mL σ G 10 4) (b : Bool) {st : Nat} (hs : st < 1024) : ∀ (j k : Nat), k + j = G.1 →
    hb_run hbSH 147 (16, [.ref 54, .int (nI st), .int (hbb (b && wEvery G st k)), .int (nI (4 + k))], [], σ) = some (some (.int (hbb (b && wEvery G st G.1))), σ) := by
  obtain ⟨hok, hn, hi⟩ := hL
  have h4 := hok.1
  have e4 : (4 : Int32) + nI G.1 = nI (4 + G.1) := by rw [q_4, q_add]
  intro j
  induction j with
  | zero =>
    intro k hk
    obtain rfl : k = G.1 := by omega
    rw [e147_16, hn, e4, if_pos (by rw [q_le (by omega) (by omega)]; omega), hbb_01, hb_g_t, hb_g_nil]
  | succ j ih =>
    intro k hk
    have ih1 := ih (k + 1) (by omega)
    obtain ⟨f1, f2⟩ := hi k (by omega)
    have hsz := (hok.2 k (by omega)).1
    rw [e147_16, hn, e4, if_neg (by rw [q_le (by omega) (by omega)]; omega), s145 (by omega) hsz hs f1 (fun i h => (f2 i h).1), hb_ci_s, nI_1, wAll_eq (d := G.2.2) (b := 3 * k) _ (fun i h => (f2 i h).2)]
    simp only [wEvery, ← Bool.and_assoc, Nat.add_assoc] at ih1
    rw [Nat.add_assoc]
    cases hw : (b && wEvery G st k) with
    | false => rw [hw] at ih1; rw [if_pos (by decide)]; exact ih1
    | true =>
      rw [hw] at ih1
      rw [if_neg (by decide)]
      cases hg : wAll G.2.2 st (3 * k) (G.2.1 k) with
      | false => rw [hg] at ih1; rw [if_pos (by decide)]; exact ih1
      | true => rw [hg] at ih1; rw [if_neg (by decide)]; exact ih1
/-- isGoodState -/
theorem s147 {σ : hbM} {B G : hbL} (hB : mL σ B 9 0) (hG : mL σ G 10 4) {st : Nat} (hs : st < 1024) : hb_ev hbSH 147 [.ref 54, .int (nI st)] σ = some (some (.int (hbb (wGood B G st))), σ) := by
  rw [v147, e147_0, s146 hB hs, hb_ci_s]
  unfold wGood
  have hl := s147_loop hG (!wAny B st B.1) hs G.1 0 (by omega)
  simp only [wEvery, Bool.and_true] at hl
  cases hw : wAny B st B.1 with
  | true => rw [hw] at hl; rw [if_pos (by decide)]; exact hl
  | false => rw [hw] at hl; rw [if_neg (by decide)]; exact hl
