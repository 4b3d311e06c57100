/-! through: a level's row -/
/-- the row R holds, in order of coming, what is marked at level l -/
def Lv (σ : hbM) (r l R n : Nat) (row : Nat → Nat) : Prop := (∀ k, k < n → σ R k = nI (row k) ∧ row k < 17408 ∧ mk σ r (row k) l = true) ∧ (∀ p, p < 17408 → mk σ r p l = true → ∃ k, k < n ∧ row k = p) ∧ n = cnt (fun p => mk σ r p l) 17408
theorem s52_none (σ : hbM) (R n l : Nat) (hR : R = 45 ∨ R = 46) : hb_ev hbSH 52 [.ref 50, .ref R, .int (nI n), .int (hbo none), .int (nI l)] σ = some (some (.int (nI n)), σ) := by
  rcases hR with rfl | rfl
  · rw [v52a, e52_0a, if_pos (show hbo none = (-1000000 : Int32) from rfl)]
  · rw [v52b, e52_0b, if_pos (show hbo none = (-1000000 : Int32) from rfl)]
theorem s52_old {σ : hbM} {r R n l p : Nat} (hR : R = 45 ∨ R = 46) (hI : rI σ r) (hn : n < 17408) (hl : l < 3) (hp : p < 17408) (hm : mk σ r p l = true) : hb_ev hbSH 52 [.ref 50, .ref R, .int (nI n), .int (hbo (some p)), .int (nI l)] σ = some (some (.int (nI n)), eE σ r p l) := by
  have h1 : ¬ nI p = (-1000000 : Int32) := fun q => by rw [q_no (by omega)] at q; exact q
  have h2 : ¬ (17408 : Int32) ≤ nI n := by rw [q_17408, q_le (by omega) (by omega)]; omega
  rcases hR with rfl | rfl
  · rw [v52a, e52_0a, show hbo (some p) = nI p from rfl, if_neg h1, if_neg h2, s28 hI hp hl, hb_ci_s, hm, Bool.not_true, hbb_f, if_neg (fun q => q rfl)]
  · rw [v52b, e52_0b, show hbo (some p) = nI p from rfl, if_neg h1, if_neg h2, s28 hI hp hl, hb_ci_s, hm, Bool.not_true, hbb_f, if_neg (fun q => q rfl)]
theorem s52_new {σ : hbM} {r R n l p : Nat} {bd : Nat → Bool} {h : Bool} (hR : R = 45 ∨ R = 46) (hI : rI σ r) (hB : ∀ st, st < 1024 → σ 11 st = hbb (bd st)) (hh : σ 50 6 = hbb h) (hn : n < 17408) (hl : l < 3) (hp : p < 17408) (hm : mk σ r p l = false) : hb_ev hbSH 52 [.ref 50, .ref R, .int (nI n), .int (hbo (some p)), .int (nI l)] σ = some (some (.int (nI (n + 1))), hb_up (hb_up (eE σ r p l) 50 6 (hbb (h || bd (p % 1024)))) R n (nI p)) := by
  have h1 : ¬ nI p = (-1000000 : Int32) := fun q => by rw [q_no (by omega)] at q; exact q
  have h2 : ¬ (17408 : Int32) ≤ nI n := by rw [q_17408, q_le (by omega) (by omega)]; omega
  have d1 : decide (¬ (1024 : Int32) = 0) = true := by decide
  have eq1 : nI p / (1024 : Int32) = nI (p / 1024) := q_div (d := 1024) (by omega) (by omega) (by omega)
  have eq2 : nI p - nI (p / 1024) * (1024 : Int32) = nI (p % 1024) := q_rem (d := 1024) (by omega) (by omega) (by omega)
  have hin : hb_in (nI (p % 1024)) 1024 = true := q_inT (by omega) (by omega)
  have fa : ∀ b : Bool, b = (h || bd (p % 1024)) → hb_run hbSH 52 (57, [.ref 50, .ref 45, .int (nI n), .int (nI p), .int (nI l)], [.int (hbb b), .ref 50], eE σ r p l) = some (some (.int (nI (n + 1))), hb_up (hb_up (eE σ r p l) 50 6 (hbb (h || bd (p % 1024)))) 45 n (nI p)) := fun b hb => by
    rw [e52_57a, hbb_01, q_inT (by omega) hn, hb_g_t, hb_g_t, hb_g_nil, nI_1, q_cl (by omega), hb]
  have fb' : ∀ b : Bool, b = (h || bd (p % 1024)) → hb_run hbSH 52 (57, [.ref 50, .ref 46, .int (nI n), .int (nI p), .int (nI l)], [.int (hbb b), .ref 50], eE σ r p l) = some (some (.int (nI (n + 1))), hb_up (hb_up (eE σ r p l) 50 6 (hbb (h || bd (p % 1024)))) 46 n (nI p)) := fun b hb => by
    rw [e52_57b, hbb_01, q_inT (by omega) hn, hb_g_t, hb_g_t, hb_g_nil, nI_1, q_cl (by omega), hb]
  rcases hR with rfl | rfl
  · rw [v52a, e52_0a, show hbo (some p) = nI p from rfl, if_neg h1, if_neg h2, s28 hI hp hl, hb_ci_s, hm, Bool.not_false, hbb_t, if_pos (by decide), eE_o _ _ _ _ (show (50 : Nat) ≠ 48 by omega), eE_o _ _ _ _ (show (11 : Nat) ≠ 48 by omega), hh, eq1, eq2, d1, hin, hb_g_t, hb_g_t, hb_g_nil, q_cl (by omega), hB _ (by omega)]
    cases h with
    | true => rw [hbb_t, if_pos (by decide)]; exact fa true rfl
    | false =>
      rw [hbb_f, if_neg (fun q => q rfl)]
      cases hb : bd (p % 1024) with
      | false => rw [hbb_f, if_pos rfl]; rw [hb] at fa; exact fa false rfl
      | true => rw [hbb_t, if_neg (by decide)]; rw [hb] at fa; exact fa true rfl
  · rw [v52b, e52_0b, show hbo (some p) = nI p from rfl, if_neg h1, if_neg h2, s28 hI hp hl, hb_ci_s, hm, Bool.not_false, hbb_t, if_pos (by decide), eE_o _ _ _ _ (show (50 : Nat) ≠ 48 by omega), eE_o _ _ _ _ (show (11 : Nat) ≠ 48 by omega), hh, eq1, eq2, d1, hin, hb_g_t, hb_g_t, hb_g_nil, q_cl (by omega), hB _ (by omega)]
    cases h with
    | true => rw [hbb_t, if_pos (by decide)]; exact fb' true rfl
    | false =>
      rw [hbb_f, if_neg (fun q => q rfl)]
      cases hb : bd (p % 1024) with
      | false => rw [hbb_f, if_pos rfl]; rw [hb] at fb'; exact fb' false rfl
      | true => rw [hbb_t, if_neg (by decide)]; rw [hb] at fb'; exact fb' true rfl
