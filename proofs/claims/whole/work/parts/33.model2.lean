/-! THE REFERENCE: going on, slips -/
def cact (a : Nat) : Nat := if a = 0 then 0 else if a = 1 then 1 else if a = 2 then 4 else if a = 3 then 5 else if a = 4 then 6 else 7
/-- the reference holds the numbers P, the flows F -/
def mR (σ : hbM) (P : hbGP) (F : hbF) : Prop :=
  mF σ F ∧ P.1 ≤ 16 ∧ σ 54 11 = nI P.1 ∧ (∀ i, i < P.1 → P.2.1 i < 6 ∧ σ 65 i = nI (cact (P.2.1 i)) ∧ P.2.2.1 i < 16 ∧ (P.2.1 i < 2 → P.2.2.1 i < 4) ∧ (P.2.1 i ≠ 2 → P.2.1 i ≠ 5 → σ 66 i = nI (P.2.2.1 i)) ∧ ((P.2.1 i = 2 ∨ P.2.1 i = 3) → mC σ (24 + i) ∧ cM σ (24 + i) = P.2.2.2.1 i)) ∧
  (∀ st, st < 1024 → P.2.2.2.2.1 st = wTick F st) ∧ P.2.2.2.2.2.1 < 65536 ∧ σ 54 34 = nI P.2.2.2.2.2.1 ∧ ∀ v, v < 4 → (P.2.2.2.2.2.2 v = none ∧ σ 68 v = -1) ∨ ∃ w, w < 4 ∧ P.2.2.2.2.2.2 v = some w ∧ σ 68 v = nI w
def mB (bars st v : Nat) : Nat → Bool
  | 0 => false
  | n + 1 => mB bars st v n || (decide (bars / 2 ^ (4 * v + n) % 2 = 1) && decide (st / 2 ^ n % 2 = 1))
theorem bits44 : ∀ x, x < 16 → ∀ y, y < 16 → (!decide (x &&& y = 0)) = ((((false || (decide (x / 2 ^ 0 % 2 = 1) && decide (y / 2 ^ 0 % 2 = 1))) || (decide (x / 2 ^ 1 % 2 = 1) && decide (y / 2 ^ 1 % 2 = 1))) || (decide (x / 2 ^ 2 % 2 = 1) && decide (y / 2 ^ 2 % 2 = 1))) || (decide (x / 2 ^ 3 % 2 = 1) && decide (y / 2 ^ 3 % 2 = 1))) := by decide +kernel
theorem mB_4 (bars st v : Nat) : mB bars st v 4 = gBar bars st v := by
  have hx : ∀ n, n < 4 → bars / 2 ^ (4 * v + n) % 2 = (bars / 2 ^ (4 * v) % 16) / 2 ^ n % 2 := fun n hn => by
    rw [Nat.pow_add, ← Nat.div_div_eq_div_mul]
    exact bit16 hn
  have hy : ∀ n, n < 4 → st / 2 ^ n % 2 = st % 16 / 2 ^ n % 2 := fun n hn => bit16 hn
  have ha : (bars / 2 ^ (4 * v) % 16) &&& st = (bars / 2 ^ (4 * v) % 16) &&& (st % 16) := by
    rw [← q_a15 st, Nat.and_comm st 15, ← Nat.and_assoc, q_a15, Nat.mod_mod]
  unfold gBar
  rw [ha, bits44 _ (Nat.mod_lt _ (by omega)) _ (Nat.mod_lt _ (by omega))]
  simp only [mB, hx 0 (by omega), hx 1 (by omega), hx 2 (by omega), hx 3 (by omega), hy 0 (by omega), hy 1 (by omega), hy 2 (by omega), hy 3 (by omega)]
theorem s150_loop {σ : hbM} {bars st v : Nat} (hb : bars < 65536) (hbe : σ 54 34 = nI bars) (hs : st < 1024) (hv : v < 4) (x3 : Int32) : ∀ (j k : Nat), k + j = 4 →
    hb_run hbSH 150 (22, [.ref 54, .int (nI st), .int (nI v), .int x3, .int (hbb (mB bars st v k)), .int (nI k)], [], σ) =
      hb_run hbSH 150 (88, [.ref 54, .int (nI st), .int (nI v), .int x3, .int (hbb (mB bars st v 4)), .int (nI 4)], [.int (nI (if mB bars st v 4 = true then st else st ||| 2 ^ v)), .ref 54], σ) := by
  intro j
  induction j with
  | zero =>
    intro k hk
    obtain rfl : k = 4 := by omega
    rw [e150_22, if_pos (by decide)]
    cases mB bars st v 4 with
    | true => rw [if_neg (by decide)]; rfl
    | false =>
      rw [if_pos (by decide), q_1, q_shl (by omega) (by rcases (show v = 0 ∨ v = 1 ∨ v = 2 ∨ v = 3 by omega) with rfl | rfl | rfl | rfl <;> decide), Nat.one_mul, q_or]
      rfl
  | succ j ih =>
    intro k hk
    have ih1 := ih (k + 1) (by omega)
    have e4 : (4 : Int32) * nI v + nI k = nI (4 * v + k) := by rw [q_4, q_mul, q_add]
    have c1 : (nI bars >>> (nI (4 * v + k) &&& 31) &&& (1 : Int32) = 1) = (bars / 2 ^ (4 * v + k) % 2 = 1) := by
      rw [q_shr (by omega) (by omega), q_1, q_and, q_a1, q_eq (by omega) (by omega)]
    have c2 : (nI st >>> (nI k &&& 31) &&& (1 : Int32) = 1) = (st / 2 ^ k % 2 = 1) := by
      rw [q_shr (by omega) (by omega), q_1, q_and, q_a1, q_eq (by omega) (by omega)]
    rw [e150_22, if_neg (by rw [q_4, q_le (by omega) (by omega)]; omega), hbe, e4, nI_1]
    simp only [c1, c2]
    simp only [mB] at ih1
    cases hw : mB bars st v k with
    | true => rw [hw] at ih1; rw [if_pos (by decide)]; exact ih1
    | false =>
      rw [hw] at ih1
      rw [if_neg (by decide)]
      by_cases g1 : bars / 2 ^ (4 * v + k) % 2 = 1
      · by_cases g2 : st / 2 ^ k % 2 = 1
        · rw [if_neg (fun q => q g1), if_neg (fun q => q g2)]
          simp only [g1, g2, decide_true, Bool.and_self, Bool.or_true] at ih1
          exact ih1
        · rw [if_neg (fun q => q g1), if_pos g2]
          simp only [g1, g2, decide_true, decide_false, Bool.and_false, Bool.or_false] at ih1
          exact ih1
      · rw [if_pos g1]
        simp only [g1, decide_false, Bool.false_and, Bool.or_false] at ih1
        exact ih1
/-- doneTo -/
theorem s150 {σ : hbM} {P : hbGP} {F : hbF} (hR : mR σ P F) {st v : Nat} (hs : st < 1024) (hv : v < 4) (op : Bool) : hb_ev hbSH 150 [.ref 54, .int (nI st), .int (nI v), .int (hbb op)] σ = some (some (.int (nI (gDone P.2.2.2.2.1 P.2.2.2.2.2.1 st v op))), σ) := by
  obtain ⟨hF, hn, hn2, hi, hT, hb, hbe, hl⟩ := hR
  have hp : 2 ^ v < 1024 := by rcases (show v = 0 ∨ v = 1 ∨ v = 2 ∨ v = 3 by omega) with rfl | rfl | rfl | rfl <;> decide
  have hor : st ||| 2 ^ v < 1024 := Nat.or_lt_two_pow (n := 10) hs hp
  have hand : st &&& (2 ^ v ^^^ 4294967295) < 1024 := Nat.lt_of_le_of_lt Nat.and_le_left hs
  rw [v150, e150_0]
  cases op with
  | true =>
    rw [if_pos (by decide)]
    have hlp := s150_loop hb hbe hs hv (hbb true) 4 0 (by omega)
    rw [show mB P.2.2.2.2.2.1 st v 0 = false from rfl, hbb_f] at hlp
    simp only [mB_4] at hlp
    rw [show (0 : Int32) = nI 0 from rfl] at hlp ⊢
    rw [hlp, e150_88]
    have hx : (if gBar P.2.2.2.2.2.1 st v = true then st else st ||| 2 ^ v) < 1024 := by split <;> assumption
    rw [s142 hF hx, hb_ci_s]
    unfold gDone
    rw [if_pos rfl, hT _ hx]
  | false =>
    rw [if_neg (by decide), q_m1, q_1, q_shl (by omega) (by rcases (show v = 0 ∨ v = 1 ∨ v = 2 ∨ v = 3 by omega) with rfl | rfl | rfl | rfl <;> decide), Nat.one_mul, q_xor, q_and, s142 hF hand, hb_ci_s]
    unfold gDone
    rw [if_neg (by decide), hT _ hand]
theorem s151 {σ : hbM} {P : hbGP} {F : hbF} (hR : mR σ P F) {k : Nat} (hk : k < 2147483648) : hb_ev hbSH 151 [.ref 54, .int (nI k)] σ = some (some (.int (hbb (decide (¬ (k < P.1 ∧ P.2.1 k ≠ 5))))), σ) := by
  obtain ⟨hF, hn, hn2, hi, hT, hb, hbe, hl⟩ := hR
  rw [v151, e151_0, hn2]
  have c1 : (nI P.1 ≤ nI k) = (P.1 ≤ k) := q_le (by omega) (by omega)
  simp only [c1]
  by_cases h1 : P.1 ≤ k
  · rw [if_pos h1]
    have : ¬ (k < P.1 ∧ P.2.1 k ≠ 5) := fun q => by omega
    simp only [this, not_false_eq_true, decide_true]; rfl
  · rw [if_neg h1, q_inT (by omega) (by omega), hb_g_t, hb_g_nil, q_cl (by omega)]
    obtain ⟨a1, a2, -⟩ := hi k (by omega)
    rw [a2]
    have hk1 : k < P.1 := by omega
    simp only [hk1, true_and]
    generalize P.2.1 k = a at a1
    rcases (show a = 0 ∨ a = 1 ∨ a = 2 ∨ a = 3 ∨ a = 4 ∨ a = 5 by omega) with rfl | rfl | rfl | rfl | rfl | rfl <;> rfl

/-- onFrom -/
theorem s152 {σ : hbM} {P : hbGP} {F : hbF} (hR : mR σ P F) {p : Nat} (hp : p < 17408) : hb_ev hbSH 152 [.ref 54, .int (nI p)] σ = some (some (.int (hbo (gOn P p))), σ) := by
  have hR0 := hR
  obtain ⟨hF, hn, hn2, hi, hT, hb, hbe, hl⟩ := hR
  have d1 : decide (¬ (1024 : Int32) = 0) = true := by decide
  have eq1 : nI p / (1024 : Int32) = nI (p / 1024) := q_div (d := 1024) (by omega) (by omega) (by omega)
  have eq2 : nI p - nI (p / 1024) * (1024 : Int32) = nI (p % 1024) := q_rem (d := 1024) (by omega) (by omega) (by omega)
  rw [v152, e152_0, d1, hb_g_t, hb_g_t, hb_g_nil, eq1, eq2, s151 hR0 (by omega), hb_ci_s]
  unfold gOn
  by_cases hk : p / 1024 < P.1
  · obtain ⟨a1, a2, a3, a4, a5, a6⟩ := hi _ hk
    have hin : hb_in (nI (p / 1024)) 16 = true := q_inT (by omega) (by omega)
    have hcl : (nI (p / 1024)).toNatClampNeg = p / 1024 := q_cl (by omega)
    rw [if_pos hk]
    by_cases h5 : P.2.1 (p / 1024) = 5
    · have : ¬ (p / 1024 < P.1 ∧ P.2.1 (p / 1024) ≠ 5) := fun q => q.2 h5
      rw [decide_eq_true this, hbb_t, if_neg (by decide), h5]
      rfl
    · have : ¬ ¬ (p / 1024 < P.1 ∧ P.2.1 (p / 1024) ≠ 5) := fun q => q ⟨hk, h5⟩
      rw [decide_eq_false this, hbb_f, if_pos (by decide), hin, hb_g_t, hb_g_nil, hcl, a2]
      have hA : P.2.1 (p / 1024) = 0 ∨ P.2.1 (p / 1024) = 1 ∨ P.2.1 (p / 1024) = 2 ∨ P.2.1 (p / 1024) = 3 ∨ P.2.1 (p / 1024) = 4 := by omega
      have e1 : (1024 : Int32) * (nI (p / 1024) + 1) = nI (1024 * (p / 1024 + 1)) := by rw [nI_1, q_1024, q_mul]
      have e24 : (24 : Int32) + nI (p / 1024) = nI (24 + p / 1024) := by rw [q_24, q_add]
      rcases hA with hA | hA | hA | hA | hA <;> rw [hA]
      · rw [show nI (cact 0) = 0 from rfl, if_pos rfl, hb_g_t, hb_g_t, hb_g_nil, if_neg (by decide), a5 (by omega) (by omega), e152_100]
        have h9 := s150 hR0 (st := p % 1024) (v := P.2.2.1 (p / 1024)) (by omega) (a4 (by omega)) true
        rw [hbb_t] at h9
        rw [h9, hb_ci_s, e1, q_add]
        rfl
      · rw [show nI (cact 1) = 1 from rfl, if_neg (by decide), if_pos rfl, hb_g_t, hb_g_t, hb_g_nil, if_pos (by decide), a5 (by omega) (by omega), e152_100]
        have h9 := s150 hR0 (st := p % 1024) (v := P.2.2.1 (p / 1024)) (by omega) (a4 (by omega)) false
        rw [hbb_f] at h9
        rw [h9, hb_ci_s, e1, q_add]
        rfl
      · obtain ⟨m1, m2⟩ := a6 (Or.inl hA)
        rw [show nI (cact 2) = 4 from rfl, if_neg (by decide), if_neg (by decide), if_neg (by decide), if_neg (by decide), if_pos rfl, e24, s144 (by omega) (by omega) m1, hb_ci_s, m2, s142 hF (by omega), hb_ci_s, e1, q_add]
        have e2 : (1024 : Int32) * nI (p / 1024) = nI (1024 * (p / 1024)) := by rw [q_1024, q_mul]
        rw [e2, q_add]
        have ht := hT (p % 1024) (by omega)
        cases gHold (P.2.2.2.1 (p / 1024)) (p % 1024) with
        | true => rfl
        | false => rw [if_pos (by decide), ← ht]; rfl
      · obtain ⟨m1, m2⟩ := a6 (Or.inr hA)
        rw [show nI (cact 3) = 5 from rfl, if_neg (by decide), if_neg (by decide), if_neg (by decide), if_neg (by decide), if_neg (by decide), if_pos rfl, e24, s144 (by omega) (by omega) m1, hb_ci_s, m2, hb_g_t, hb_g_nil, a5 (by omega) (by omega), e1, q_add]
        have e2 : (1024 : Int32) * nI (P.2.2.1 (p / 1024)) = nI (1024 * P.2.2.1 (p / 1024)) := by rw [q_1024, q_mul]
        rw [e2, q_add]
        cases gHold (P.2.2.2.1 (p / 1024)) (p % 1024) with
        | true => rfl
        | false => rfl
      · have e2 : (1024 : Int32) * nI (P.2.2.1 (p / 1024)) = nI (1024 * P.2.2.1 (p / 1024)) := by rw [q_1024, q_mul]
        rw [show nI (cact 4) = 6 from rfl, if_neg (by decide), if_neg (by decide), if_neg (by decide), if_neg (by decide), if_neg (by decide), if_neg (by decide), hb_g_t, hb_g_nil, a5 (by omega) (by omega), e2, q_add]
        rfl
  · have : ¬ (p / 1024 < P.1 ∧ P.2.1 (p / 1024) ≠ 5) := fun q => hk q.1
    rw [decide_eq_true this, hbb_t, if_neg (by decide), if_neg hk]
    rfl
/-- takesTick, of a place that goes on -/
theorem s157 {σ : hbM} {P : hbGP} {F : hbF} (hR : mR σ P F) {p : Nat} (hp : p < 17408) (hk : p / 1024 < P.1) : hb_ev hbSH 157 [.ref 54, .int (nI p)] σ = some (some (.int (hbb (gTk P p))), σ) := by
  obtain ⟨hF, hn, hn2, hi, hT, hb, hbe, hl⟩ := hR
  have d1 : decide (¬ (1024 : Int32) = 0) = true := by decide
  have eq1 : nI p / (1024 : Int32) = nI (p / 1024) := q_div (d := 1024) (by omega) (by omega) (by omega)
  have eq2 : nI p - nI (p / 1024) * (1024 : Int32) = nI (p % 1024) := q_rem (d := 1024) (by omega) (by omega) (by omega)
  obtain ⟨a1, a2, a3, a4, a5, a6⟩ := hi _ hk
  have hin : hb_in (nI (p / 1024)) 16 = true := q_inT (by omega) (by omega)
  have hcl : (nI (p / 1024)).toNatClampNeg = p / 1024 := q_cl (by omega)
  have e24 : (24 : Int32) + nI (p / 1024) = nI (24 + p / 1024) := by rw [q_24, q_add]
  rw [v157, e157_0, d1, eq1, eq2, hin, hb_g_t, hb_g_t, hb_g_nil, hcl, a2, hb_g_t, hb_g_nil, hb_g_t, hb_g_nil, e24]
  unfold gTk
  rw [decide_eq_true hk, Bool.true_and]
  have hA : P.2.1 (p / 1024) = 0 ∨ P.2.1 (p / 1024) = 1 ∨ P.2.1 (p / 1024) = 2 ∨ P.2.1 (p / 1024) = 3 ∨ P.2.1 (p / 1024) = 4 ∨ P.2.1 (p / 1024) = 5 := by omega
  rcases hA with hA | hA | hA | hA | hA | hA <;> rw [hA]
  · rfl
  · rfl
  · obtain ⟨m1, m2⟩ := a6 (Or.inl hA)
    rw [show nI (cact 2) = 4 from rfl, if_neg (by decide), if_neg (by decide), s144 (by omega) (by omega) m1, hb_ci_s, m2]
    cases gHold (P.2.2.2.1 (p / 1024)) (p % 1024) <;> rfl
  · rfl
  · rfl
  · rfl
/-- slipFrom -/
theorem s153 {σ : hbM} {P : hbGP} {F : hbF} (hR : mR σ P F) {p k : Nat} (hp : p < 17408) (hk4 : k < 4) : hb_ev hbSH 153 [.ref 54, .int (nI p), .int (nI k)] σ = some (some (.int (hbo (gSl P p k))), σ) := by
  have hR0 := hR
  obtain ⟨hF, hn, hn2, hi, hT, hb, hbe, hl⟩ := hR
  have d1 : decide (¬ (1024 : Int32) = 0) = true := by decide
  have eq1 : nI p / (1024 : Int32) = nI (p / 1024) := q_div (d := 1024) (by omega) (by omega) (by omega)
  have eq2 : nI p - nI (p / 1024) * (1024 : Int32) = nI (p % 1024) := q_rem (d := 1024) (by omega) (by omega) (by omega)
  have c1 : (nI P.1 ≤ nI (p / 1024)) = (P.1 ≤ p / 1024) := q_le (by omega) (by omega)
  have hK : k = 0 ∨ k = 1 ∨ k = 2 ∨ k = 3 := by omega
  rw [v153, e153_0, d1, hb_g_t, hb_g_t, hb_g_nil, eq1, eq2, hn2]
  have fin : ∀ {o : Option Nat} {X : Option hbO}, gSl P p k = o → X = some (some (.int (hbo o)), σ) → X = some (some (.int (hbo (gSl P p k))), σ) := fun h1 h2 => by rw [h1]; exact h2
  by_cases hk : p / 1024 < P.1
  · obtain ⟨a1, a2, a3, a4, a5, a6⟩ := hi _ hk
    have hin : hb_in (nI (p / 1024)) 16 = true := q_inT (by omega) (by omega)
    have hcl : (nI (p / 1024)).toNatClampNeg = p / 1024 := q_cl (by omega)
    have hc : ¬ nI P.1 ≤ nI (p / 1024) := by rw [c1]; omega
    rw [if_neg hc, if_neg hc, if_neg hc, hin, hb_g_t, hb_g_t, hb_g_t, hb_g_nil, hb_g_nil, hb_g_nil, hcl, a2]
    have e1 : (1024 : Int32) * (nI (p / 1024) + 1) = nI (1024 * (p / 1024 + 1)) := by rw [nI_1, q_1024, q_mul]
    have e24 : (24 : Int32) + nI (p / 1024) = nI (24 + p / 1024) := by rw [q_24, q_add]
    have haway : p / 1024 ≠ 0 → (1024 : Int32) * (nI (p / 1024) - 1) + nI (p % 1024) = nI (1024 * (p / 1024 - 1) + p % 1024) := fun hz => by
      rw [q_1, q_sub (by omega), q_1024, q_mul, q_add]
    have hz : (nI (p / 1024) ≤ 0) = (p / 1024 = 0) := by
      rw [q_0, q_le (by omega) (by omega)]; exact propext (by omega)
    have hskip : (1024 : Int32) * (nI (p / 1024) + 1) + nI (p % 1024) = nI (1024 * (p / 1024 + 1) + p % 1024) := by rw [e1, q_add]
    have hA : P.2.1 (p / 1024) = 0 ∨ P.2.1 (p / 1024) = 1 ∨ P.2.1 (p / 1024) = 2 ∨ P.2.1 (p / 1024) = 3 ∨ P.2.1 (p / 1024) = 4 ∨ P.2.1 (p / 1024) = 5 := by omega
    have hdeed : ∀ op : Bool, P.2.1 (p / 1024) < 2 → σ 65 (p / 1024) = hbb (!op) → hb_run hbSH 153 (61, [.ref 54, .int (nI p), .int (nI k), .int (nI (p / 1024)), .int (nI (p % 1024)), .int 1, .null, .null], [.int 0], σ) =
        some (some (.int (hbo (if k = 0 then some (1024 * (p / 1024 + 1) + p % 1024)
      else if k = 1 then (match P.2.2.2.2.2.2 (P.2.2.1 (p / 1024)) with
        | none => none
        | some v => some (1024 * (p / 1024 + 1) + gDone P.2.2.2.2.1 P.2.2.2.2.2.1 (p % 1024) v op))
      else if k = 2 then none
      else (if p / 1024 = 0 then none else some (1024 * (p / 1024 - 1) + p % 1024))))), σ) := by
      intro op h2 h65
      have hin4 : hb_in (nI (P.2.2.1 (p / 1024))) 4 = true := q_inT (by omega) (a4 h2)
      rw [e153_61, hin, hcl, a5 (by omega) (by omega), hin4, hb_g_t, hb_g_t, hb_g_nil, hb_g_t, hb_g_t, hb_g_t, hb_g_nil, q_cl (by omega)]
      rcases hK with rfl | rfl | rfl | rfl
      · rw [if_neg (by decide), if_pos (by decide), hskip]; rfl
      · rw [if_pos (by decide), if_neg (by decide), if_neg (by decide), e153_151, e153_151]
        rcases hl _ (a4 h2) with ⟨g1, g2⟩ | ⟨w, g0, g1, g2⟩
        · rw [g2, if_pos (by decide), g1]; rfl
        · have h9 := s150 hR0 (st := p % 1024) (v := w) (by omega) g0 op
          rw [g2, if_neg (nI_pos (by omega)), g1, h65]
          cases op with
          | true => rw [if_neg (by decide), show (1 : Int32) = hbb true from rfl, h9, hb_ci_s, show hbb true = (1 : Int32) from rfl, e1, q_add]; rfl
          | false => rw [if_pos (by decide), show (0 : Int32) = hbb false from rfl, h9, hb_ci_s, e1, q_add]; rfl
      · rfl
      · rw [if_pos (by decide), if_pos (by decide), if_pos (by decide), if_pos (by decide)]
        simp only [hz]
        by_cases h0 : p / 1024 = 0
        · simp only [h0]; rfl
        · rw [if_neg h0, haway h0, if_neg (by decide), if_neg (by decide), if_neg (by decide), if_neg h0]; rfl
    rcases hA with hA | hA | hA | hA | hA | hA
    · have h9 := hdeed true (by omega) (by rw [a2, hA]; rfl)
      refine fin ?_ ((show _ = _ from ?_).trans h9)
      · unfold gSl
        rw [if_pos ⟨hk, by omega⟩, hA]
        rcases hK with rfl | rfl | rfl | rfl <;> rfl
      · rw [hA, show nI (cact 0) = 0 from rfl, if_neg (by decide), if_pos (by decide)]
    · have h9 := hdeed false (by omega) (by rw [a2, hA]; rfl)
      refine fin ?_ ((show _ = _ from ?_).trans h9)
      · unfold gSl
        rw [if_pos ⟨hk, by omega⟩, hA]
        rcases hK with rfl | rfl | rfl | rfl <;> rfl
      · rw [hA, show nI (cact 1) = 1 from rfl, if_neg (by decide), if_pos (by decide)]
    · obtain ⟨m1, m2⟩ := a6 (Or.inl hA)
      refine fin (o := if k = 0 then some (1024 * (p / 1024 + 1) + p % 1024) else if k = 1 then none else if k = 2 then (if gHold (P.2.2.2.1 (p / 1024)) (p % 1024) = false then some (1024 * (p / 1024 + 1) + P.2.2.2.2.1 (p % 1024)) else none) else (if p / 1024 = 0 then none else some (1024 * (p / 1024 - 1) + p % 1024))) ?_ ?_
      · unfold gSl
        rw [if_pos ⟨hk, by omega⟩, hA]
        rcases hK with rfl | rfl | rfl | rfl
        · rfl
        · rfl
        · simp
        · rfl
      · rw [hA, show nI (cact 2) = 4 from rfl, if_pos (by decide), if_neg (by decide), e153_61]
        rcases hK with rfl | rfl | rfl | rfl
        · rw [if_neg (by decide), if_neg (by decide), if_neg (by decide), hskip]; rfl
        · rfl
        · rw [if_pos (by decide), if_pos (by decide), if_neg (by decide), if_neg (by decide), e24, s144 (by omega) (by omega) m1, hb_ci_s, m2, s142 hF (by omega), hb_ci_s, e1, q_add, ← hT (p % 1024) (by omega)]
          cases gHold (P.2.2.2.1 (p / 1024)) (p % 1024) <;> rfl
        · rw [if_pos (by decide), if_pos (by decide), if_pos (by decide), if_neg (by decide), if_neg (by decide)]
          simp only [hz]
          by_cases h0 : p / 1024 = 0
          · simp only [h0]; rfl
          · rw [if_neg h0, haway h0, if_neg (by decide), if_neg (by decide), if_neg (by decide), if_neg h0]; rfl
    · refine fin (o := none) ?_ ?_
      · unfold gSl; rw [hA, if_neg (fun q => absurd q.2 (by omega))]
      · rw [hA, show nI (cact 3) = 5 from rfl, if_pos (by decide), if_pos (by decide), e153_61]
        rcases hK with rfl | rfl | rfl | rfl <;> rfl
    · refine fin (o := none) ?_ ?_
      · unfold gSl; rw [hA, if_neg (fun q => absurd q.2 (by omega))]
      · rw [hA, show nI (cact 4) = 6 from rfl, if_pos (by decide), if_pos (by decide), e153_61]
        rcases hK with rfl | rfl | rfl | rfl <;> rfl
    · refine fin (o := none) ?_ ?_
      · unfold gSl; rw [hA, if_neg (fun q => absurd q.2 (by omega))]
      · rw [hA, show nI (cact 5) = 7 from rfl, if_pos (by decide), if_pos (by decide), e153_61]
        rcases hK with rfl | rfl | rfl | rfl <;> rfl
  · have hc : nI P.1 ≤ nI (p / 1024) := by rw [c1]; omega
    refine fin (o := none) ?_ ?_
    · unfold gSl; rw [if_neg (fun q => hk q.1)]
    · rw [if_pos hc, if_pos hc, e153_61]
      rcases hK with rfl | rfl | rfl | rfl <;> rfl
