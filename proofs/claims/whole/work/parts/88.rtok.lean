/-! tokens: the reference's -/
theorem s121 (σ : hbM) {b : Nat} (hb : b < 256) : hb_ev hbSH 121 [.int (nI b)] σ = some (some (.int (hbb (isL b))), σ) := by
  rw [v121, e121_0, q_97, q_122]
  unfold isL
  simp only [q_lt (show b < 2147483648 by omega) (show 97 < 2147483648 by omega), q_lt (show 122 < 2147483648 by omega) (show b < 2147483648 by omega)]
  by_cases h1 : b < 97
  · rw [if_pos h1, decide_eq_false (by omega)]; rfl
  · rw [if_neg h1]
    by_cases h2 : 122 < b
    · rw [if_pos h2, decide_eq_false (by omega)]; rfl
    · rw [if_neg h2, decide_eq_true (by omega)]; rfl
theorem s122 (σ : hbM) {b : Nat} (hb : b < 256) : hb_ev hbSH 122 [.int (nI b)] σ = some (some (.int (hbb (isF b))), σ) := by
  rw [v122, e122_0, q_48, q_57]
  unfold isF
  simp only [q_lt (show b < 2147483648 by omega) (show 48 < 2147483648 by omega), q_lt (show 57 < 2147483648 by omega) (show b < 2147483648 by omega)]
  by_cases h1 : b < 48
  · rw [if_pos h1, decide_eq_false (by omega)]; rfl
  · rw [if_neg h1]
    by_cases h2 : 57 < b
    · rw [if_pos h2, decide_eq_false (by omega)]; rfl
    · rw [if_neg h2, decide_eq_true (by omega)]; rfl
theorem s121n (σ : hbM) : hb_ev hbSH 121 [.int hbNO] σ = some (some (.int 0), σ) := by
  rw [v121, e121_0, if_pos (by decide)]
theorem s122n (σ : hbM) : hb_ev hbSH 122 [.int hbNO] σ = some (some (.int 0), σ) := by
  rw [v122, e122_0, if_pos (by decide)]
/-- the reference's tape, its length told -/
def rTp (bt : Nat → Nat) (n : Nat) (σ : hbM) : Prop := tpe σ 67 bt n ∧ σ 54 25 = nI n
/-- only the reader's own fields have changed -/
def rF (σ σ' : hbM) : Prop := (∀ x, x ≠ 54 → σ' x = σ x) ∧ ∀ i, i ≠ 26 → i ≠ 27 → i ≠ 28 → i ≠ 29 → σ' 54 i = σ 54 i
theorem rF.rf (σ : hbM) : rF σ σ := ⟨fun _ _ => rfl, fun _ _ _ _ _ => rfl⟩
theorem rF.tr {a b d : hbM} (h1 : rF a b) (h2 : rF b d) : rF a d := ⟨fun x hx => (h2.1 x hx).trans (h1.1 x hx), fun i p q r t => (h2.2 i p q r t).trans (h1.2 i p q r t)⟩
theorem rF.up {σ σ' : hbM} (h : rF σ σ') {i : Nat} (v : Int32) (hi : i = 26 ∨ i = 27 ∨ i = 28 ∨ i = 29) : rF σ (hb_up σ' 54 i v) := ⟨fun x hx => by rw [um_c _ _ _ hx]; exact h.1 x hx, fun j p q r t => by rw [um_i _ _ _ (by omega)]; exact h.2 j p q r t⟩
theorem rTp.fr {bt : Nat → Nat} {n : Nat} {σ σ' : hbM} (h : rTp bt n σ) (hf : rF σ σ') : rTp bt n σ' := ⟨⟨h.1.1, h.1.2.1, fun i hi => by rw [hf.1 67 (by omega)]; exact h.1.2.2 i hi⟩, by rw [hf.2 25 (by omega) (by omega) (by omega) (by omega)]; exact h.2⟩
section
variable (bt : Nat → Nat) (n : Nat)
def rE (k : Nat) : Nat := if tkS bt n k < n then enT bt n (tkS bt n k) else n
def rY (k : Nat) : Nat := if tkS bt n k < n then (if isL (bt (tkS bt n k)) = true then 2 else if isF (bt (tkS bt n k)) = true then (if 2 < enT bt n (tkS bt n k) - tkS bt n k then 0 else 3) else if bt (tkS bt n k) = 59 then 4 else 0) else 1
/-- the reader stands at token k -/
def rT (σ : hbM) (k : Nat) : Prop := σ 54 28 = nI (tkS bt n k) ∧ σ 54 26 = nI (rE bt n k) ∧ σ 54 29 = nI (rE bt n k) ∧ σ 54 27 = nI (rY bt n k)
end
section
variable {bt : Nat → Nat} {n : Nat}
theorem s120 {σ : hbM} (hT : rTp bt n σ) {i : Nat} (hi : i < 1000) : hb_ev hbSH 120 [.ref 54, .int (nI i)] σ = some (some (.int (if i < n then nI (bt i) else hbNO)), σ) := by
  have hn := hT.1.1
  rw [v120, e120_0, hT.2]
  by_cases h : i < n
  · rw [if_neg (by rw [q_le (by omega) (by omega)]; omega), q_inT (by omega) (by omega), hb_g_t, hb_g_nil, q_cl (by omega), hT.1.2.2 i h, if_pos h]
  · rw [if_pos (by rw [q_le (by omega) (by omega)]; omega), if_neg h]
theorem s123_77 (x1 : Int32) : ∀ (f i : Nat) (σ : hbM), n ≤ i + f → i ≤ n → rTp bt n σ → σ 54 26 = nI i → ∃ σ', hb_run hbSH 123 (77, [.ref 54, .int x1], [], σ) = some (none, σ') ∧ rF σ σ' ∧ σ' 54 28 = σ 54 28 ∧ σ' 54 26 = nI (wh (fun x => decide (x < n) && isL (bt x)) 401 i) ∧ σ' 54 29 = nI (wh (fun x => decide (x < n) && isL (bt x)) 401 i) ∧ σ' 54 27 = nI 2 := by
  intro f
  induction f with
  | zero =>
    intro i σ hf hi hT h26
    have hn := hT.1.1
    have hq : (fun x => decide (x < n) && isL (bt x)) i = false := by show (decide (i < n) && _) = false; rw [decide_eq_false (by omega)]; rfl
    refine ⟨hb_up (hb_up σ 54 27 2) 54 29 (nI i), ?_, ((rF.rf σ).up _ (by omega)).up _ (by omega), by rw [um_i _ _ _ (by omega), um_i _ _ _ (by omega)], by rw [um_i _ _ _ (by omega), um_i _ _ _ (by omega), wh_f hq]; exact h26, by rw [um_s, wh_f hq], by rw [um_i _ _ _ (by omega), um_s]; rfl⟩
    rw [e123_77, h26, s120 hT (by omega), hb_ci_s, if_neg (by omega), s121n, hb_ci_s, if_pos rfl, h26]
  | succ f ih =>
    intro i σ hf hi hT h26
    have hn := hT.1.1
    rw [e123_77, h26, s120 hT (by omega), hb_ci_s]
    by_cases hin : i < n
    · rw [if_pos hin, s121 σ (hT.1.2.1 i), hb_ci_s]
      cases hl : isL (bt i) with
      | true =>
        have hq1 : ∀ x, (fun x => decide (x < n) && isL (bt x)) x = true → x < n := fun x h => by simp only [Bool.and_eq_true, decide_eq_true_eq] at h; exact h.1
        have hqi : (fun x => decide (x < n) && isL (bt x)) i = true := by show (decide (i < n) && isL (bt i)) = true; rw [hl, decide_eq_true hin]; rfl
        have fr := (rF.rf σ).up (i := 26) (nI (i + 1)) (by omega)
        obtain ⟨σ', a1, a2, a3, a4, a5, a6⟩ := ih (i + 1) (hb_up σ 54 26 (nI (i + 1))) (by omega) (by omega) (hT.fr fr) (um_s _ _ _ _)
        rw [hbb_t, if_neg (by decide), h26, nI_1, wh_t hn hq1 hqi]
        exact ⟨σ', a1, fr.tr a2, by rw [a3, um_i _ _ _ (by omega)], a4, a5, a6⟩
      | false =>
        have hqi : (fun x => decide (x < n) && isL (bt x)) i = false := by show (decide (i < n) && isL (bt i)) = false; rw [hl, Bool.and_false]
        rw [hbb_f, if_pos rfl, h26]
        exact ⟨hb_up (hb_up σ 54 27 2) 54 29 (nI i), rfl, ((rF.rf σ).up _ (by omega)).up _ (by omega), by rw [um_i _ _ _ (by omega), um_i _ _ _ (by omega)], by rw [um_i _ _ _ (by omega), um_i _ _ _ (by omega), wh_f hqi]; exact h26, by rw [um_s, wh_f hqi], by rw [um_i _ _ _ (by omega), um_s]; rfl⟩
    · have hq : (fun x => decide (x < n) && isL (bt x)) i = false := by show (decide (i < n) && _) = false; rw [decide_eq_false hin]; rfl
      rw [if_neg hin, s121n, hb_ci_s, if_pos rfl, h26]
      exact ⟨hb_up (hb_up σ 54 27 2) 54 29 (nI i), rfl, ((rF.rf σ).up _ (by omega)).up _ (by omega), by rw [um_i _ _ _ (by omega), um_i _ _ _ (by omega)], by rw [um_i _ _ _ (by omega), um_i _ _ _ (by omega), wh_f hq]; exact h26, by rw [um_s, wh_f hq], by rw [um_i _ _ _ (by omega), um_s]; rfl⟩
theorem s123_119 (x1 : Int32) {j : Nat} : ∀ (f i : Nat) (σ : hbM), n ≤ i + f → j ≤ i → i ≤ n → rTp bt n σ → σ 54 26 = nI i → σ 54 28 = nI j → ∃ σ', hb_run hbSH 123 (119, [.ref 54, .int x1], [], σ) = some (none, σ') ∧ rF σ σ' ∧ σ' 54 28 = σ 54 28 ∧ σ' 54 26 = nI (wh (fun x => decide (x < n) && isF (bt x)) 401 i) ∧ σ' 54 29 = nI (wh (fun x => decide (x < n) && isF (bt x)) 401 i) ∧ σ' 54 27 = nI (if 2 < wh (fun x => decide (x < n) && isF (bt x)) 401 i - j then 0 else 3) := by
  have fin : ∀ (i : Nat) (σ : hbM), n ≤ 400 → j ≤ i → i ≤ n → (fun x => decide (x < n) && isF (bt x)) i = false → σ 54 26 = nI i → σ 54 28 = nI j → ∃ σ', (if ((σ 54 26) - (σ 54 28)) ≤ (2 : Int32) then (some (none, (hb_up (hb_up σ 54 27 3) 54 29 (σ 54 26))) : Option hbO) else (some (none, (hb_up (hb_up σ 54 27 0) 54 29 (σ 54 26))))) = some (none, σ') ∧ rF σ σ' ∧ σ' 54 28 = σ 54 28 ∧ σ' 54 26 = nI (wh (fun x => decide (x < n) && isF (bt x)) 401 i) ∧ σ' 54 29 = nI (wh (fun x => decide (x < n) && isF (bt x)) 401 i) ∧ σ' 54 27 = nI (if 2 < wh (fun x => decide (x < n) && isF (bt x)) 401 i - j then 0 else 3) := by
    intro i σ hn hj hi hq h26 h28
    rw [wh_f hq, h26, h28, q_sub hj]
    by_cases z : i - j ≤ 2
    · rw [if_pos (by rw [q_2, q_le (by omega) (by omega)]; exact z), if_neg (by omega)]
      exact ⟨_, rfl, ((rF.rf σ).up _ (by omega)).up _ (by omega), by rw [um_i _ _ _ (by omega), um_i _ _ _ (by omega)]; exact h28, by rw [um_i _ _ _ (by omega), um_i _ _ _ (by omega)]; exact h26, by rw [um_s], by rw [um_i _ _ _ (by omega), um_s]; rfl⟩
    · rw [if_neg (by rw [q_2, q_le (by omega) (by omega)]; exact z), if_pos (by omega)]
      exact ⟨_, rfl, ((rF.rf σ).up _ (by omega)).up _ (by omega), by rw [um_i _ _ _ (by omega), um_i _ _ _ (by omega)]; exact h28, by rw [um_i _ _ _ (by omega), um_i _ _ _ (by omega)]; exact h26, by rw [um_s], by rw [um_i _ _ _ (by omega), um_s]; rfl⟩
  intro f
  induction f with
  | zero =>
    intro i σ hf hj hi hT h26 h28
    have hq : (fun x => decide (x < n) && isF (bt x)) i = false := by show (decide (i < n) && _) = false; rw [decide_eq_false (by omega)]; rfl
    rw [e123_119, h26, s120 hT (by have := hT.1.1; omega), hb_ci_s, if_neg (by omega), s122n, hb_ci_s, if_pos rfl]
    exact fin i σ hT.1.1 hj hi hq h26 h28
  | succ f ih =>
    intro i σ hf hj hi hT h26 h28
    have hn := hT.1.1
    rw [e123_119]
    rw [show hb_ev hbSH 120 [.ref 54, .int (σ 54 26)] σ = some (some (.int (if i < n then nI (bt i) else hbNO)), σ) by rw [h26]; exact s120 hT (by omega), hb_ci_s]
    by_cases hin : i < n
    · rw [if_pos hin, s122 σ (hT.1.2.1 i), hb_ci_s]
      cases hl : isF (bt i) with
      | true =>
        have hq1 : ∀ x, (fun x => decide (x < n) && isF (bt x)) x = true → x < n := fun x h => by simp only [Bool.and_eq_true, decide_eq_true_eq] at h; exact h.1
        have hqi : (fun x => decide (x < n) && isF (bt x)) i = true := by show (decide (i < n) && isF (bt i)) = true; rw [hl, decide_eq_true hin]; rfl
        have fr := (rF.rf σ).up (i := 26) (nI (i + 1)) (by omega)
        obtain ⟨σ', a1, a2, a3, a4, a5, a6⟩ := ih (i + 1) (hb_up σ 54 26 (nI (i + 1))) (by omega) (by omega) (by omega) (hT.fr fr) (um_s _ _ _ _) (by rw [um_i _ _ _ (by omega)]; exact h28)
        rw [hbb_t, if_neg (by decide), h26, nI_1, wh_t hn hq1 hqi]
        exact ⟨σ', a1, fr.tr a2, by rw [a3, um_i _ _ _ (by omega)], a4, a5, a6⟩
      | false =>
        have hqi : (fun x => decide (x < n) && isF (bt x)) i = false := by show (decide (i < n) && isF (bt i)) = false; rw [hl, Bool.and_false]
        rw [hbb_f, if_pos rfl]
        exact fin i σ hn hj hi hqi h26 h28
    · have hq : (fun x => decide (x < n) && isF (bt x)) i = false := by show (decide (i < n) && _) = false; rw [decide_eq_false hin]; rfl
      rw [if_neg hin, s122n, hb_ci_s, if_pos rfl]
      exact fin i σ hn hj hi hq h26 h28
end
