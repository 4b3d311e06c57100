/-! through: the graph of places with levels -/
def tE (P : hbGP) (sl : Nat) (x y : Nat) : Prop := (∃ q, gOn P (x % 17408) = some q ∧ y = 17408 * (x / 17408) + q) ∨ (x / 17408 < sl ∧ ∃ k q, k < 4 ∧ gSl P (x % 17408) k = some q ∧ y = 17408 * (x / 17408 + 1) + q)
/-- the reference's queue: n nodes in row, C what was come to -/
def mQ (σ : hbM) (n : Nat) (row : Nat → Nat) (C : Nat → Bool) : Prop := σ 54 37 = nI n ∧ (∀ k, k < n → σ 71 k = nI (row k) ∧ row k < 52224 ∧ C (row k) = true) ∧ (∀ x, x < 52224 → σ 70 x = hbb (C x)) ∧ (∀ x, x < 52224 → C x = true → ∃ k, k < n ∧ row k = x) ∧ n = cnt C 52224
/-- come: a node is laid into the queue, once -/
theorem s159 {σ : hbM} {n : Nat} {row : Nat → Nat} {C : Nat → Bool} (h : mQ σ n row C) {x : Nat} (hx : x < 52224) : ∃ σ' n' row', hb_ev hbSH 159 [.ref 54, .int (nI x)] σ = some (none, σ') ∧ mS σ σ' ∧ mQ σ' n' row' (fun y => C y || decide (y = x)) ∧ n ≤ n' ∧ ∀ k, k < n → row' k = row k := by
  obtain ⟨h1, h2, h3, h4, h5⟩ := h
  have hin : hb_in (nI x) 52224 = true := q_inT (by omega) hx
  have hcl : (nI x).toNatClampNeg = x := q_cl (by omega)
  cases hC : C x with
  | true =>
    have e : (fun y => C y || decide (y = x)) = C := by
      funext y
      by_cases q : y = x
      · rw [q, hC]; rfl
      · rw [decide_eq_false q, Bool.or_false]
    refine ⟨σ, n, row, ?_, mS.rf σ, ?_, Nat.le_refl _, fun _ _ => rfl⟩
    · rw [v159, e159_0, hin, hb_g_t, hb_g_nil, hcl, h3 x hx, hC, hbb_t, if_pos (by decide)]
    · rw [e]; exact ⟨h1, h2, h3, h4, h5⟩
  | false =>
    have hc := cnt_set hC 52224 hx
    have hle := cnt_le (fun y => C y || decide (y = x)) 52224
    have hn : n < 52224 := by omega
    refine ⟨hb_up (hb_up (hb_up σ 70 x 1) 71 n (nI x)) 54 37 (nI (n + 1)), n + 1, fun k => if k = n then x else row k, ?_, (((mS.rf σ).up _ _ (by omega)).up _ _ (by omega)).upf _ (by omega), ⟨um_s _ _ _ _, fun k hk => ?_, fun y hy => ?_, fun y hy hCy => ?_, by omega⟩, by omega, fun k hk => if_neg (by omega)⟩
    · rw [v159, e159_0, hin, hb_g_t, hb_g_nil, hcl, h3 x hx, hC, hbb_f, if_neg (fun q => q rfl), show hb_01 1 = true from rfl, h1, q_inT (by omega) hn, hb_g_t, hb_g_t, hb_g_t, hb_g_nil, nI_1, q_cl (by omega)]
    · show hb_up (hb_up (hb_up σ 70 x 1) 71 n (nI x)) 54 37 (nI (n + 1)) 71 k = nI (if k = n then x else row k) ∧ (if k = n then x else row k) < 52224 ∧ (C (if k = n then x else row k) || decide ((if k = n then x else row k) = x)) = true
      rw [um_c _ _ _ (show (71 : Nat) ≠ 54 by omega), um_at]
      by_cases q : k = n
      · rw [if_pos q, if_pos q]
        exact ⟨rfl, hx, by simp⟩
      · rw [if_neg q, if_neg q, um_c _ _ _ (show (71 : Nat) ≠ 70 by omega)]
        obtain ⟨a1, a2, a3⟩ := h2 k (by omega)
        exact ⟨a1, a2, by simp [a3]⟩
    · show hb_up (hb_up (hb_up σ 70 x 1) 71 n (nI x)) 54 37 (nI (n + 1)) 70 y = hbb (C y || decide (y = x))
      rw [um_c _ _ _ (show (70 : Nat) ≠ 54 by omega), um_c _ _ _ (show (70 : Nat) ≠ 71 by omega), um_at]
      by_cases q : y = x
      · rw [if_pos q, decide_eq_true q, Bool.or_true]; rfl
      · rw [if_neg q, h3 y hy, decide_eq_false q, Bool.or_false]
    · by_cases q : y = x
      · exact ⟨n, by omega, by show (if n = n then x else row n) = y; rw [if_pos rfl, q]⟩
      · have hCy2 : (C y || decide (y = x)) = true := hCy
        rw [decide_eq_false q, Bool.or_false] at hCy2
        obtain ⟨k, k1, k2⟩ := h4 y hy hCy2
        exact ⟨k, by omega, by show (if k = n then x else row k) = y; rw [if_neg (by omega)]; exact k2⟩
