/-! THE ROWS OF THE SEARCHES: rounds and marks -/
/-- only the class's own search cells have changed -/
def cS (σ σ' : hbM) : Prop := ∀ c, (c < 44 ∨ 54 ≤ c) → σ' c = σ c
theorem cS.rf (σ : hbM) : cS σ σ := fun _ _ => rfl
theorem cS.tr {a b c : hbM} (h1 : cS a b) (h2 : cS b c) : cS a c := fun k hk => (h2 k hk).trans (h1 k hk)
theorem cS.up {σ σ' : hbM} (h : cS σ σ') {c : Nat} (i : Nat) (v : Int32) (hc : 44 ≤ c ∧ c < 54) : cS σ (hb_up σ' c i v) := fun k hk => by
  rw [um_c _ _ _ (by omega)]; exact h k hk
/-- as cS, and the marks of endings and fates stay -/
def cW (σ σ' : hbM) : Prop := ∀ c, (c < 44 ∨ 54 ≤ c ∨ c = 51 ∨ c = 52) → σ' c = σ c
theorem cW.rf (σ : hbM) : cW σ σ := fun _ _ => rfl
theorem cW.tr {a b c : hbM} (h1 : cW a b) (h2 : cW b c) : cW a c := fun k hk => (h2 k hk).trans (h1 k hk)
theorem cW.up {σ σ' : hbM} (h : cW σ σ') {c : Nat} (i : Nat) (v : Int32) (hc : 44 ≤ c ∧ c < 54 ∧ c ≠ 51 ∧ c ≠ 52) : cW σ (hb_up σ' c i v) := fun k hk => by
  rw [um_c _ _ _ (by omega)]; exact h k hk
theorem cW.cS {σ σ' : hbM} (h : cW σ σ') : cS σ σ' := fun c hc => h c (by omega)
theorem cS_gP {σ σ' : hbM} (h : cS σ σ') : gP σ' = gP σ := by
  have e : ∀ c, c < 44 → tn σ' c = tn σ c := fun c hc => by funext i; unfold tn; rw [h c (Or.inl hc)]
  unfold gP
  rw [e 31 (by omega), e 32 (by omega), e 33 (by omega), e 34 (by omega), e 10 (by omega), e 0 (by omega), e 37 (by omega), h 37 (by omega)]
theorem cS_gI {σ σ' : hbM} (h : cS σ σ') (hg : gI σ) : gI σ' := by
  have e : ∀ c, c < 44 → tn σ' c = tn σ c := fun c hc => by funext i; unfold tn; rw [h c (Or.inl hc)]
  obtain ⟨h1, h2, h3, h4, h5⟩ := hg
  refine ⟨?_, fun i hi => ?_, fun st hs => ?_, ?_, fun v hv => ?_⟩
  · rw [h 31 (by omega)]; exact h1
  · rw [e 31 (by omega)] at hi
    rw [h 32 (by omega), h 33 (by omega), h 34 (by omega), e 32 (by omega), e 33 (by omega)]
    exact h2 i hi
  · rw [h 10 (by omega)]; exact h3 st hs
  · rw [h 0 (by omega)]; exact h4
  · rw [h 37 (by omega)]; exact h5 v hv
/-- r rounds have begun; no mark bears a later one -/
def rI (σ : hbM) (r : Nat) : Prop := σ 44 4 = nI r ∧ r < 100000000 ∧ ∀ p, p < 17408 → ∃ v, σ 48 p = nI v ∧ v < 8 * (r + 1)
def mk (σ : hbM) (r p l : Nat) : Bool := decide (tn σ 48 p / 8 = r) && decide (tn σ 48 p / 2 ^ l % 2 = 1)
theorem rI.up {σ : hbM} {r : Nat} (h : rI σ r) {c : Nat} (i : Nat) (v : Int32) (hc : c ≠ 44 ∧ c ≠ 48) : rI (hb_up σ c i v) r := by
  obtain ⟨h1, h2, h3⟩ := h
  exact ⟨by rw [um_c _ _ _ (by omega)]; exact h1, h2, fun p hp => by rw [um_c _ _ _ (by omega)]; exact h3 p hp⟩
theorem mk.up (σ : hbM) (r p l : Nat) {c : Nat} (i : Nat) (v : Int32) (hc : c ≠ 48) : mk (hb_up σ c i v) r p l = mk σ r p l := by
  unfold mk tn; rw [um_c _ _ _ (by omega)]
/-- begin -/
theorem s27 {σ : hbM} {r : Nat} (h : rI σ r) (hr : r + 1 < 100000000) : hb_ev hbSH 27 [.ref 44] σ = some (none, hb_up σ 44 4 (nI (r + 1))) ∧ rI (hb_up σ 44 4 (nI (r + 1))) (r + 1) ∧ ∀ p l, p < 17408 → mk (hb_up σ 44 4 (nI (r + 1))) (r + 1) p l = false := by
  obtain ⟨h1, h2, h3⟩ := h
  refine ⟨?_, ⟨um_s _ _ _ _, hr, fun p hp => ?_⟩, fun p l hp => ?_⟩
  · rw [v27, e27_0, h1, nI_1]
  · obtain ⟨v, e, b⟩ := h3 p hp
    exact ⟨v, by rw [um_c _ _ _ (by omega)]; exact e, by omega⟩
  · obtain ⟨v, e, b⟩ := h3 p hp
    unfold mk tn
    rw [um_c _ _ _ (by omega), e, q_cl (by omega), decide_eq_false (by omega), Bool.false_and]
/-- the mark of a place behind enter -/
def eV (σ : hbM) (r p l : Nat) : Nat := 8 * r + ((if tn σ 48 p / 8 = r then tn σ 48 p % 8 else 0) ||| 2 ^ l)
def eE (σ : hbM) (r p l : Nat) : hbM := hb_up σ 48 p (nI (eV σ r p l))
theorem bits8 : ∀ s, s < 8 → ∀ l, l < 3 → (s ||| 2 ^ l < 8) ∧ ((s &&& 2 ^ l = 0) ↔ (s / 2 ^ l % 2 = 0)) ∧ ∀ j, j < 3 → ((s ||| 2 ^ l) / 2 ^ j % 2 = 1 ↔ (s / 2 ^ j % 2 = 1 ∨ j = l)) := by decide +kernel
theorem bit8 (r x j : Nat) (hj : j < 3) : (8 * r + x) / 2 ^ j % 2 = x / 2 ^ j % 2 := by
  rcases (show j = 0 ∨ j = 1 ∨ j = 2 by omega) with rfl | rfl | rfl <;> simp only [Nat.reducePow] <;> omega
theorem mod8 (x j : Nat) (hj : j < 3) : x % 8 / 2 ^ j % 2 = x / 2 ^ j % 2 := by
  rcases (show j = 0 ∨ j = 1 ∨ j = 2 by omega) with rfl | rfl | rfl <;> simp only [Nat.reducePow] <;> omega
theorem eV_lt (σ : hbM) (r p l : Nat) (hl : l < 3) : eV σ r p l < 8 * (r + 1) ∧ eV σ r p l / 8 = r := by
  unfold eV
  have hs : (if tn σ 48 p / 8 = r then tn σ 48 p % 8 else 0) < 8 := by split <;> omega
  have := (bits8 _ hs l hl).1
  omega
theorem s28 {σ : hbM} {r p l : Nat} (h : rI σ r) (hp : p < 17408) (hl : l < 3) : hb_ev hbSH 28 [.ref 44, .int (nI p), .int (nI l)] σ = some (some (.int (hbb (!mk σ r p l))), eE σ r p l) := by
  obtain ⟨h1, h2, h3⟩ := h
  obtain ⟨v, e, b⟩ := h3 p hp
  have et : tn σ 48 p = v := by unfold tn; rw [e, q_cl (by omega)]
  have hin : hb_in (nI p) 17408 = true := q_inT (by omega) hp
  have hcl : (nI p).toNatClampNeg = p := q_cl (by omega)
  have hs : (if v / 8 = r then v % 8 else 0) < 8 := by split <;> omega
  obtain ⟨b1, b2, b3⟩ := bits8 _ hs l hl
  have h2l : 2 ^ l < 8 := by rcases (show l = 0 ∨ l = 1 ∨ l = 2 by omega) with rfl | rfl | rfl <;> decide
  have key : hb_run hbSH 28 (25, [.ref 44, .int (nI p), .int (nI l), .int (nI v), .null, .null], [.int (nI (if v / 8 = r then v % 8 else 0))], σ) = some (some (.int (hbb (!mk σ r p l))), eE σ r p l) := by
    rw [e28_25, hin, hb_g_t, hb_g_nil, hcl, h1]
    have ev : (nI r <<< (3 : Int32) ||| nI (if v / 8 = r then v % 8 else 0)) ||| ((1 : Int32) <<< (nI l &&& 31)) = nI (eV σ r p l) := by
      rw [q_shl3 (by omega), q_1, q_shl (by omega) (by omega), Nat.one_mul, q_or, q_or]
      unfold eV
      rw [et, Nat.or_assoc, Nat.mul_comm r 8, Nat.two_pow_add_eq_or_of_lt (i := 3) b1]
    rw [ev]
    have ec : ((nI (if v / 8 = r then v % 8 else 0) &&& ((1 : Int32) <<< (nI l &&& 31))) = 0) = ((if v / 8 = r then v % 8 else 0) / 2 ^ l % 2 = 0) := by
      rw [q_1, q_shl (by omega) (by omega), Nat.one_mul, q_and, q_0]
      have hz : (if v / 8 = r then v % 8 else 0) &&& 2 ^ l < 2147483648 := Nat.lt_of_le_of_lt Nat.and_le_left (by omega)
      rw [q_eq hz (by omega)]
      exact propext b2
    simp only [ec]
    have em : mk σ r p l = decide (¬ (if v / 8 = r then v % 8 else 0) / 2 ^ l % 2 = 0) := by
      unfold mk
      rw [et]
      by_cases hv : v / 8 = r
      · rw [if_pos hv, decide_eq_true hv, Bool.true_and, mod8 v l hl]
        apply decide_eq_decide.mpr
        omega
      · rw [if_neg hv, decide_eq_false hv, Bool.false_and]
        simp
    rw [em]
    by_cases hg : (if v / 8 = r then v % 8 else 0) / 2 ^ l % 2 = 0
    · rw [if_neg (fun q => q hg)]
      simp only [hg, not_true_eq_false, decide_false, Bool.not_false]
      rfl
    · rw [if_pos hg]
      simp only [hg, not_false_eq_true, decide_true, Bool.not_true]
      rfl
  rw [v28, e28_0, hin, hb_g_t, hb_g_nil, hcl, e, h1, q_shr3 (by omega)]
  have c1 : (nI (v / 8) = nI r) = (v / 8 = r) := q_eq (by omega) (by omega)
  have e7 : nI v &&& (7 : Int32) = nI (v % 8) := by rw [q_7, q_and, q_a7]
  simp only [c1, e7]
  by_cases hv : v / 8 = r
  · rw [if_neg (fun q => q hv)]
    rw [if_pos hv] at key
    exact key
  · rw [if_pos hv]
    rw [if_neg hv] at key
    exact key
theorem eE_rI {σ : hbM} {r p l : Nat} (h : rI σ r) (hl : l < 3) : rI (eE σ r p l) r := by
  obtain ⟨h1, h2, h3⟩ := h
  refine ⟨by unfold eE; rw [um_c _ _ _ (by omega)]; exact h1, h2, fun q hq => ?_⟩
  unfold eE
  rw [um_at]
  split
  · exact ⟨_, rfl, (eV_lt σ r p l hl).1⟩
  · exact h3 q hq
theorem eE_mk {σ : hbM} {r p l : Nat} (h : rI σ r) (hp : p < 17408) (hl : l < 3) {q j : Nat} (hj : j < 3) : mk (eE σ r p l) r q j = (mk σ r q j || (decide (q = p) && decide (j = l))) := by
  have hb := eV_lt σ r p l hl
  have h2 := h.2.1
  have hs : (if tn σ 48 p / 8 = r then tn σ 48 p % 8 else 0) < 8 := by split <;> omega
  obtain ⟨b1, b2, b3⟩ := bits8 _ hs l hl
  unfold eE
  by_cases hq : q = p
  · subst hq
    have e1 : tn (hb_up σ 48 q (nI (eV σ r q l))) 48 q = eV σ r q l := by unfold tn; rw [um_s, q_cl (by omega)]
    unfold mk
    rw [e1, hb.2, decide_eq_true rfl, Bool.true_and, decide_eq_true rfl, Bool.true_and]
    have e2 : eV σ r q l / 2 ^ j % 2 = ((if tn σ 48 q / 8 = r then tn σ 48 q % 8 else 0) ||| 2 ^ l) / 2 ^ j % 2 := by unfold eV; exact bit8 _ _ _ hj
    rw [e2]
    have b4 := b3 j hj
    by_cases hv : tn σ 48 q / 8 = r
    · rw [if_pos hv] at b4 ⊢
      rw [mod8 _ _ hj] at b4
      rw [decide_eq_true hv, Bool.true_and, ← Bool.decide_or]
      exact decide_eq_decide.mpr b4
    · rw [if_neg hv] at b4 ⊢
      rw [decide_eq_false hv, Bool.false_and, Bool.false_or]
      apply decide_eq_decide.mpr
      rw [b4]
      simp
  · unfold mk tn
    rw [um_i _ _ _ hq, decide_eq_false hq, Bool.false_and, Bool.or_false]
theorem eE_cS (σ : hbM) (r p l : Nat) : cS σ (eE σ r p l) := (cS.rf σ).up _ _ (by omega)
theorem eE_o (σ : hbM) (r p l : Nat) {c : Nat} (h : c ≠ 48) : eE σ r p l c = σ c := um_c _ _ _ h
theorem eE_cW (σ : hbM) (r p l : Nat) : cW σ (eE σ r p l) := (cW.rf σ).up _ _ (by omega)
