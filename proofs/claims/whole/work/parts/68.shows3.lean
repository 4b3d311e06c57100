/-! shows: the reference -/
theorem s168_182 {A : Nat} (hA : A = 77 ∨ A = 78) (σ : hbM) (x1 x2 x3 x6 x7 x8 x9 x10 : Int32) {q t : Nat} (b : Bool) (hq : q < 17408) (ht : t < 50) : hb_run hbSH 168 (182, [.ref 54, .int x1, .int x2, .int x3, .ref A, .int (nI q), .int x6, .int x7, .int x8, .int x9, .int x10], [.int (hbb b), .int (nI t)], σ) = hb_run hbSH 168 (27, [.ref 54, .int x1, .int x2, .int x3, .ref A, .int (nI q), .int (nI (t + (if b = true then 1 else 0))), .int x7, .int x8, .int x9, .int x10], [], hb_up σ A (t + (if b = true then 1 else 0)) (nI (q % 1024 / 16))) := by
  have d1 : decide (¬ (1024 : Int32) = 0) = true := by decide
  have eq1 : nI q / (1024 : Int32) = nI (q / 1024) := q_div (d := 1024) (by omega) (by omega) (by omega)
  have eq2 : nI q - nI (q / 1024) * (1024 : Int32) = nI (q % 1024) := q_rem (d := 1024) (by omega) (by omega) (by omega)
  have hb : t + (if b = true then 1 else 0) ≤ 50 := by split <;> omega
  rw [re168_182 hA, d1, eq1, eq2, hbb_n, q_add, q_inT (by omega) (by omega), hb_g_t, hb_g_t, hb_g_nil, q_cl (by omega), q_shr4 (by omega)]
theorem s168_mv {A : Nat} (hA : A = 77 ∨ A = 78) {σ : hbM} {P : hbGP} {F : hbF} (hR : mR σ P F) (hP : gOk P) (x1 : Int32) {x2 : Int32} {s k p t u : Nat} {a : Bool} (hk : k < 4) (hp : p < 17408) (ht : t < 50) (hu : u < 40) (hx : a = false ∨ (x2 = nI s ∧ s < 17)) (v9 v10 : Value) {c' : Nat × Bool} {b : Bool} (hm : mvS P s k (p, a) = some (c', b)) :
    ∃ w9 w10, hb_run hbSH 168 (27, [.ref 54, .int x1, .int x2, .int (nI k), .ref A, .int (nI p), .int (nI t), .int (nI u), .int (hbb (!a)), v9, v10], [], σ) = hb_run hbSH 168 (27, [.ref 54, .int x1, .int x2, .int (nI k), .ref A, .int (nI c'.1), .int (nI (t + (if b = true then 1 else 0))), .int (nI (if b = true then 0 else u + 1)), .int (hbb (!c'.2)), w9, w10], [], hb_up σ A (t + (if b = true then 1 else 0)) (nI (c'.1 % 1024 / 16))) := by
  have d1 : decide (¬ (1024 : Int32) = 0) = true := by decide
  have eq1 : nI p / (1024 : Int32) = nI (p / 1024) := q_div (d := 1024) (by omega) (by omega) (by omega)
  have hoff := gOn_none (P := P) hP.2.2 p
  have hon : gOn P p ≠ none := fun z => by rw [(mvS_none (s := s) (k := k) (c := (p, a))).mpr z] at hm; cases hm
  have hne : p / 1024 < P.1 ∧ P.2.1 (p / 1024) ≠ 5 := Classical.byContradiction fun z => hon (hoff.mpr z)
  obtain ⟨q0, hq0⟩ : ∃ q, gOn P p = some q := by
    cases h : gOn P p with
    | none => exact absurd h hon
    | some q => exact ⟨q, rfl⟩
  have hq0l := hP.1 _ _ hp hq0
  have hn0 : hbo (some q0) = nI q0 := rfl
  rw [re168_27 hA, if_neg (by rw [q_50, q_le (by omega) (by omega)]; omega), if_neg (by rw [q_40, q_le (by omega) (by omega)]; omega), d1, hb_g_t, hb_g_nil, eq1, s151 hR (by omega), hb_ci_s, decide_eq_false (fun z => z hne), hbb_f, if_neg (fun z => z rfl)]
  have h152 := s152 hR hp
  rw [hq0, hn0] at h152
  have h157 := s157 hR hp hne.1
  cases a with
  | false =>
    have hmm : c' = (q0, false) ∧ b = gTk P p := by
      unfold mvS at hm
      simp only [Bool.false_and, Bool.false_eq_true, if_false, hq0] at hm
      simp only [Option.some.injEq, Prod.mk.injEq] at hm
      exact ⟨hm.1.symm, hm.2.symm⟩
    obtain ⟨rfl, rfl⟩ := hmm
    rw [Bool.not_false, hbb_t, if_pos (by decide), h157, hb_ci_s, if_pos (by decide), re168_133 hA, if_neg (fun z => z rfl), h152, hb_ci_s]
    cases hb : gTk P p with
    | true =>
      rw [hbb_t, if_neg (by decide), if_neg (by decide), show (1 : Int32) = hbb true from rfl, s168_182 hA σ _ _ _ _ _ _ _ _ true hq0l ht]
      exact ⟨_, _, rfl⟩
    | false =>
      rw [hbb_f, if_pos rfl, if_pos rfl, nI_1, show (0 : Int32) = hbb false from rfl, s168_182 hA σ _ _ _ _ _ _ _ _ false hq0l ht]
      exact ⟨_, _, rfl⟩
  | true =>
    obtain ⟨hx1, hs⟩ := hx.resolve_left (by decide)
    rw [Bool.not_true, hbb_f, if_neg (fun z => z rfl), hb_g_t, hb_g_nil]
    by_cases hsp : p / 1024 = s
    · rw [if_neg (fun z => z (by rw [hx1, hsp])), s153 hR hp hk, hb_ci_s]
      cases hsl : gSl P p k with
      | some q =>
        have hql := hP.2.1 _ _ _ hp hsl
        have hn : ¬ hbo (some q) = (-1000000 : Int32) := nno (by omega)
        have hmm : c' = (q, false) ∧ b = decide (k = 1 ∨ k = 2) := by
          unfold mvS at hm
          simp only [Bool.true_and, hsp, decide_true, if_true, hsl] at hm
          simp only [Option.some.injEq, Prod.mk.injEq] at hm
          exact ⟨hm.1.symm, hm.2.symm⟩
        obtain ⟨rfl, rfl⟩ := hmm
        rw [if_pos hn]
        rcases (show k = 0 ∨ k = 1 ∨ k = 2 ∨ k = 3 by omega) with rfl | rfl | rfl | rfl
        · rw [if_neg (show ¬ nI 0 = (1 : Int32) by decide), if_pos (show ¬ nI 0 = (2 : Int32) by decide), if_neg (fun z => z rfl), if_neg hn, if_pos hn, re168_153 hA, if_pos rfl, if_pos rfl, nI_1, show hbo (some q) = nI q from rfl, show (0 : Int32) = hbb false from rfl, s168_182 hA σ _ _ _ _ _ _ _ _ false hql ht]
          exact ⟨_, _, rfl⟩
        · rw [if_pos (show nI 1 = (1 : Int32) by decide), if_neg (fun z => z rfl), if_neg hn, re168_133 hA, if_pos hn, if_neg (by decide), if_neg (by decide), show hbo (some q) = nI q from rfl, show (1 : Int32) = hbb true from rfl, s168_182 hA σ _ _ _ _ _ _ _ _ true hql ht]
          exact ⟨_, _, rfl⟩
        · rw [if_neg (show ¬ nI 2 = (1 : Int32) by decide), if_neg (show ¬ ¬ nI 2 = (2 : Int32) by decide), if_neg (fun z => z rfl), if_neg hn, re168_133 hA, if_pos hn, if_neg (by decide), if_neg (by decide), show hbo (some q) = nI q from rfl, show (1 : Int32) = hbb true from rfl, s168_182 hA σ _ _ _ _ _ _ _ _ true hql ht]
          exact ⟨_, _, rfl⟩
        · rw [if_neg (show ¬ nI 3 = (1 : Int32) by decide), if_pos (show ¬ nI 3 = (2 : Int32) by decide), if_neg (fun z => z rfl), if_neg hn, if_pos hn, re168_153 hA, if_pos rfl, if_pos rfl, nI_1, show hbo (some q) = nI q from rfl, show (0 : Int32) = hbb false from rfl, s168_182 hA σ _ _ _ _ _ _ _ _ false hql ht]
          exact ⟨_, _, rfl⟩
      | none =>
        have hmm : c' = (q0, true) ∧ b = gTk P p := by
          unfold mvS at hm
          simp only [Bool.true_and, hsp, decide_true, if_true, hsl, hq0] at hm
          simp only [Option.some.injEq, Prod.mk.injEq] at hm
          exact ⟨hm.1.symm, hm.2.symm⟩
        obtain ⟨rfl, rfl⟩ := hmm
        rw [if_neg (fun z => z (show hbo none = (-1000000 : Int32) from rfl)), h157, hb_ci_s, if_neg (fun z => z rfl), if_pos (show hbo none = (-1000000 : Int32) from rfl), if_neg (fun z => z (show hbo none = (-1000000 : Int32) from rfl)), h152, hb_ci_s]
        cases hb : gTk P p with
        | true =>
          rw [hbb_t, if_neg (by decide), re168_168 hA, if_neg (by decide), show (1 : Int32) = hbb true from rfl, s168_182 hA σ _ _ _ _ _ _ _ _ true hq0l ht]
          exact ⟨_, _, rfl⟩
        | false =>
          rw [hbb_f, if_pos rfl, re168_168 hA, if_pos rfl, nI_1, show (0 : Int32) = hbb false from rfl, s168_182 hA σ _ _ _ _ _ _ _ _ false hq0l ht]
          exact ⟨_, _, rfl⟩
    · have hmm : c' = (q0, true) ∧ b = gTk P p := by
        unfold mvS at hm
        simp only [Bool.true_and, hsp, decide_false, Bool.false_eq_true, if_false, hq0] at hm
        simp only [Option.some.injEq, Prod.mk.injEq] at hm
        exact ⟨hm.1.symm, hm.2.symm⟩
      obtain ⟨rfl, rfl⟩ := hmm
      rw [if_pos (fun z => hsp (by rw [hx1, q_eq (by omega) (by omega)] at z; exact z)), h157, hb_ci_s, if_neg (fun z => z rfl), h152, hb_ci_s, re168_153 hA]
      cases hb : gTk P p with
      | true =>
        rw [hbb_t, if_neg (by decide), if_neg (by decide), show (1 : Int32) = hbb true from rfl, s168_182 hA σ _ _ _ _ _ _ _ _ true hq0l ht]
        exact ⟨_, _, rfl⟩
      | false =>
        rw [hbb_f, if_pos rfl, if_pos rfl, nI_1, show (0 : Int32) = hbb false from rfl, s168_182 hA σ _ _ _ _ _ _ _ _ false hq0l ht]
        exact ⟨_, _, rfl⟩
theorem s168_fill {A : Nat} (hA : A = 77 ∨ A = 78) (x1 x2 x3 x5 x7 x8 : Int32) (v10 : Value) {t : Nat} (ht : t ≤ 50) : ∀ (f u : Nat) (σ : hbM), u + f = 51 → t < u →
    ∃ σ', hb_run hbSH 168 (207, [.ref 54, .int x1, .int x2, .int x3, .ref A, .int x5, .int (nI t), .int x7, .int x8, .int (nI u), v10], [], σ) = some (none, σ') ∧ (∀ c, c ≠ A → σ' c = σ c) ∧ (∀ i, i < u → σ' A i = σ A i) ∧ ∀ i, u ≤ i → i ≤ 50 → σ' A i = σ A t := by
  intro f
  induction f with
  | zero =>
    intro u σ hu htu
    obtain rfl : u = 51 := by omega
    exact ⟨σ, by rw [re168_207 hA, if_pos (by decide)], fun _ _ => rfl, fun _ _ => rfl, fun i h1 h2 => by omega⟩
  | succ f ih =>
    intro u σ hu htu
    obtain ⟨σ', r1, r2, r3, r4⟩ := ih (u + 1) (hb_up σ A u (σ A t)) (by omega) (by omega)
    refine ⟨σ', ?_, fun c hc => by rw [r2 c hc, um_c _ _ _ hc], fun i hi => by rw [r3 i (by omega), um_i _ _ _ (by omega)], fun i h1 h2 => ?_⟩
    · rw [re168_207 hA, if_neg (by rw [q_50, q_lt (by omega) (by omega)]; omega), q_inT (by omega) (by omega), q_inT (by omega) (by omega), hb_g_t, hb_g_t, hb_g_nil, q_cl (by omega), q_cl (by omega), nI_1]
      exact r1
    · by_cases z : i = u
      · rw [z, r3 u (by omega), um_s]
      · rw [r4 i (by omega) h2, um_i _ _ _ (by omega)]
theorem mSA {A : Nat} (hA : A = 77 ∨ A = 78) {σ σ' : hbM} (h : ∀ c, c ≠ A → σ' c = σ c) : mS σ σ' := by
  have h54 : (54 : Nat) ≠ A := by rcases hA with z | z <;> omega
  refine ⟨fun c _ h2 => h c (fun z => ?_), fun i _ _ _ _ => by rw [h 54 h54]⟩
  rcases hA with y | y <;> omega
theorem s168_loop {A : Nat} (hA : A = 77 ∨ A = 78) {P : hbGP} {F : hbF} (hP : gOk P) (x1 : Int32) {x2 : Int32} {s k : Nat} (hk : k < 4) : ∀ (m t u p : Nat) (a : Bool) (σ : hbM) (v9 v10 : Value), 41 * (50 - t) + (40 - u) < m → t ≤ 50 → u ≤ 40 → p < 17408 → mR σ P F → σ A t = nI (p % 1024 / 16) → (a = false ∨ (x2 = nI s ∧ s < 17)) →
    ∃ σ', hb_run hbSH 168 (27, [.ref 54, .int x1, .int x2, .int (nI k), .ref A, .int (nI p), .int (nI t), .int (nI u), .int (hbb (!a)), v9, v10], [], σ) = some (none, σ') ∧ (∀ c, c ≠ A → σ' c = σ c) ∧ (∀ i, i < t → σ' A i = σ A i) ∧ ∀ j, t + j ≤ 50 → σ' A (t + j) = nI (hz P s k j (40 - u) (p, a)) := by
  intro m
  induction m with
  | zero => intro t u p a σ v9 v10 h; omega
  | succ m ih =>
    intro t u p a σ v9 v10 hm ht hu hp hR hAt hx
    have fin : (∀ j, hz P s k j (40 - u) (p, a) = p % 1024 / 16 ∨ t = 50 ∧ 0 < j) → hb_run hbSH 168 (27, [.ref 54, .int x1, .int x2, .int (nI k), .ref A, .int (nI p), .int (nI t), .int (nI u), .int (hbb (!a)), v9, v10], [], σ) = hb_run hbSH 168 (207, [.ref 54, .int x1, .int x2, .int (nI k), .ref A, .int (nI p), .int (nI t), .int (nI u), .int (hbb (!a)), .int (nI (t + 1)), v10], [], σ) → ∃ σ', hb_run hbSH 168 (27, [.ref 54, .int x1, .int x2, .int (nI k), .ref A, .int (nI p), .int (nI t), .int (nI u), .int (hbb (!a)), v9, v10], [], σ) = some (none, σ') ∧ (∀ c, c ≠ A → σ' c = σ c) ∧ (∀ i, i < t → σ' A i = σ A i) ∧ ∀ j, t + j ≤ 50 → σ' A (t + j) = nI (hz P s k j (40 - u) (p, a)) := by
      intro hh he
      obtain ⟨σ', r1, r2, r3, r4⟩ := s168_fill hA x1 x2 (nI k) (nI p) (nI u) (hbb (!a)) v10 ht (50 - t) (t + 1) σ (by omega) (by omega)
      refine ⟨σ', he.trans r1, r2, fun i hi => r3 i (by omega), fun j hj => ?_⟩
      have hj' : hz P s k j (40 - u) (p, a) = p % 1024 / 16 := (hh j).resolve_right (fun z => by omega)
      rw [hj']
      by_cases z : j = 0
      · rw [z, Nat.add_zero, r3 t (by omega), hAt]
      · rw [r4 (t + j) (by omega) hj, hAt]
    by_cases ht50 : t = 50
    · refine fin (fun j => ?_) ?_
      · cases j with
        | zero => exact Or.inl rfl
        | succ j => exact Or.inr ⟨ht50, by omega⟩
      · rw [re168_27 hA, if_pos (by rw [q_50, q_le (by omega) (by omega)]; omega), nI_1]
    · by_cases hu40 : u = 40
      · refine fin (fun j => Or.inl ?_) ?_
        · rw [hu40]
          cases j with
          | zero => rfl
          | succ j => rfl
        · rw [re168_27 hA, if_neg (by rw [q_50, q_le (by omega) (by omega)]; omega), if_pos (by rw [q_40, q_le (by omega) (by omega)]; omega), nI_1]
      · cases hmv : mvS P s k (p, a) with
        | none =>
          have hg := mvS_none.mp hmv
          refine fin (fun j => Or.inl ?_) ?_
          · cases j with
            | zero => rfl
            | succ j =>
              simp only [hz]
              rw [show 40 - u = (40 - u - 1) + 1 by omega, nt_n hmv, if_neg (show ¬ false = true by decide)]
          · have d1 : decide (¬ (1024 : Int32) = 0) = true := by decide
            have eq1 : nI p / (1024 : Int32) = nI (p / 1024) := q_div (d := 1024) (by omega) (by omega) (by omega)
            have hoff := gOn_none (P := P) hP.2.2 p
            rw [re168_27 hA, if_neg (by rw [q_50, q_le (by omega) (by omega)]; omega), if_neg (by rw [q_40, q_le (by omega) (by omega)]; omega), d1, hb_g_t, hb_g_nil, eq1, s151 hR (by omega), hb_ci_s, decide_eq_true (hoff.mp hg), hbb_t, if_pos (by decide), nI_1]
        | some cb =>
          obtain ⟨c', b⟩ := cb
          obtain ⟨w9, w10, e⟩ := s168_mv hA hR hP x1 hk hp (t := t) (u := u) (by omega) (by omega) hx v9 v10 hmv
          have hc' := mvS_lt hP hp hmv
          have fr : ∀ c, c ≠ A → hb_up σ A (t + (if b = true then 1 else 0)) (nI (c'.1 % 1024 / 16)) c = σ c := fun c hc => um_c _ _ _ hc
          have hx' : c'.2 = false ∨ (x2 = nI s ∧ s < 17) := by
            rcases hx with hx | hx
            · subst hx
              exact Or.inl (mvS_ff hmv)
            · exact Or.inr hx
          obtain ⟨σ', r1, r2, r3, r4⟩ := ih (t + (if b = true then 1 else 0)) (if b = true then 0 else u + 1) c'.1 c'.2 _ w9 w10 (by split <;> omega) (by split <;> omega) (by split <;> omega) hc' (mS_mR (mSA hA fr) hR) (um_s _ _ _ _) hx'
          refine ⟨σ', e.trans r1, fun c hc => (r2 c hc).trans (fr c hc), fun i hi => ?_, fun j hj => ?_⟩
          · rw [r3 i (by split <;> omega), um_i _ _ _ (by split <;> omega)]
          · cases b with
            | true =>
              cases j with
              | zero =>
                rw [Nat.add_zero, r3 t (by rw [if_pos rfl]; omega), um_i _ _ _ (by rw [if_pos rfl]; omega), hAt]; rfl
              | succ j =>
                have := r4 j (by rw [if_pos rfl]; omega)
                rw [if_pos rfl, if_pos rfl] at this
                rw [show t + (j + 1) = t + 1 + j by omega, this]
                simp only [hz]
                rw [show 40 - u = (40 - u - 1) + 1 by omega, nt_t hmv, if_pos rfl]
            | false =>
              have := r4 j (by rw [if_neg (by decide)]; omega)
              rw [if_neg (by decide), if_neg (by decide), Nat.add_zero] at this
              rw [this]
              have hst := mvS_st hmv
              cases j with
              | zero => show nI (c'.1 % 1024 / 16) = nI (p % 1024 / 16); rw [hst]
              | succ j =>
                simp only [hz]
                rw [show 40 - u = (40 - (u + 1)) + 1 by omega, nt_f hmv, hst]
/-- goRun -/
theorem s168 {A : Nat} (hA : A = 77 ∨ A = 78) {σ : hbM} {P : hbGP} {F : hbF} (hR : mR σ P F) (hP : gOk P) {x2 : Int32} {s k st : Nat} {a : Bool} (hk : k < 4) (hst : st < 1024) (hx : (x2 = -1000000 ∧ a = false) ∨ (x2 = nI s ∧ s < 17 ∧ a = true)) :
    ∃ σ', hb_ev hbSH 168 [.ref 54, .int (nI st), .int x2, .int (nI k), .ref A] σ = some (none, σ') ∧ (∀ c, c ≠ A → σ' c = σ c) ∧ ∀ j, j ≤ 50 → σ' A j = nI ((cz P s k j (st, a)).1 % 1024 / 16) := by
  have fr : ∀ c, c ≠ A → hb_up σ A 0 (nI (st / 16)) c = σ c := fun c hc => um_c _ _ _ hc
  obtain ⟨σ', r1, r2, r3, r4⟩ := s168_loop hA (F := F) hP (nI st) (x2 := x2) (s := s) hk 2091 0 0 st a (hb_up σ A 0 (nI (st / 16))) .null .null (by omega) (by omega) (by omega) (by omega) (mS_mR (mSA hA fr) hR) (by rw [um_s]; congr 1; omega) (by rcases hx with h | h; exact Or.inl h.2; exact Or.inr ⟨h.1, h.2.1⟩)
  refine ⟨σ', ?_, fun c hc => (r2 c hc).trans (fr c hc), fun j hj => ?_⟩
  · rw [rv168 hA, re168_0 hA]
    have e18 : ∀ s0 : Int32, hb_run hbSH 168 (18, [.ref 54, .int (nI st), .int x2, .int (nI k), .ref A, .int (nI st), .int 0, .int 0, .null, .null, .null], [.int s0], σ) = hb_run hbSH 168 (27, [.ref 54, .int (nI st), .int x2, .int (nI k), .ref A, .int (nI st), .int (nI 0), .int (nI 0), .int s0, .null, .null], [], hb_up σ A 0 (nI (st / 16))) := fun s0 => by
      rw [re168_18 hA, show hb_in 0 51 = true from rfl, hb_g_t, hb_g_nil, q_shr4 (by omega)]; rfl
    rcases hx with ⟨h1, h2⟩ | ⟨h1, h2, h3⟩
    · subst h2
      rw [h1, if_neg (by decide), ← h1, e18]
      exact r1
    · subst h3
      rw [if_pos (by rw [h1, q_0, q_le (by omega) (by omega)]; omega), e18]
      exact r1
  · have := r4 j (by omega)
    rw [Nat.zero_add, Nat.sub_zero, hz_cz hP j (st, a) (show st < 17408 by omega)] at this
    exact this
theorem s169_loop {σ : hbM} {A B : Nat → Nat} (x1 x2 x3 : Int32) (hA : ∀ j, j ≤ 50 → σ 77 j = nI (A j)) (hB : ∀ j, j ≤ 50 → σ 78 j = nI (B j)) (hAl : ∀ j, A j < 64) (hBl : ∀ j, B j < 64) : ∀ (f t : Nat), t + f = 51 → hb_run hbSH 169 (64, [.ref 54, .int x1, .int x2, .int x3, .int (nI t)], [], σ) = some (some (.int (hbo (fdf A B f t))), σ) := by
  intro f
  induction f with
  | zero =>
    intro t ht
    obtain rfl : t = 51 := by omega
    rw [e169_64, if_pos (by decide)]; rfl
  | succ f ih =>
    intro t ht
    rw [e169_64, if_neg (by rw [q_50, q_lt (by omega) (by omega)]; omega), q_inT (by omega) (by omega), hb_g_t, hb_g_t, hb_g_nil, q_cl (by omega), hA t (by omega), hB t (by omega), nI_1, ih (t + 1) (by omega)]
    have h1 := hAl t
    have h2 := hBl t
    simp only [fdf, q_eq (show A t < 2147483648 by omega) (show B t < 2147483648 by omega)]
    by_cases z : A t = B t
    · rw [if_pos z, if_pos z]
    · rw [if_neg z, if_neg z]; rfl
def aShw (P : hbGP) (st s k : Nat) : Int32 := hbo (fdf (fun t => (cz P 0 0 t (st, false)).1 % 1024 / 16) (fun t => (cz P s k t (st, true)).1 % 1024 / 16) 50 1)
theorem h64 (p : Nat) : p % 1024 / 16 < 64 := by omega
theorem s169 {σ : hbM} {P : hbGP} {F : hbF} (hR : mR σ P F) (hP : gOk P) (x y z : Int32) :
    ∃ σ', hb_ev hbSH 169 [.ref 54, .int x, .int y, .int z] σ = some (some (.int (if hb_in x 1024 = true ∧ hb_in y P.1 = true ∧ hb_in z 4 = true then aShw P x.toNatClampNeg y.toNatClampNeg z.toNatClampNeg else -1000001)), σ') ∧ mS σ σ' := by
  have m0 := mS_t σ
  have hR0 := mS_mR m0 hR
  have hn16 := hR.2.1
  have h11 := hR0.2.2.1
  have hle : (Int32.toInt64 (nI P.1 - 1)).toInt = (P.1 : Int) - 1 := by
    rw [Int32.toInt_toInt64]
    by_cases z : P.1 = 0
    · rw [z]; rfl
    · rw [q_1, q_sub (by omega), q_ti (by omega)]; omega
  rw [v169, e169_0, s136, hb_ci_s]
  cases hx : hb_in x 1024 with
  | false => exact ⟨_, by rw [hbb_f, if_pos rfl, if_neg (fun q => by cases q.1)], m0⟩
  | true =>
    rw [hbb_t, if_neg (by decide), h11, s112, q_long y P.1 hle, hb_ci_s]
    cases hy : hb_in y P.1 with
    | false => exact ⟨_, by rw [hbb_f, if_pos rfl, if_neg (fun q => by cases q.2.1)], m0⟩
    | true =>
      rw [hbb_t, if_neg (by decide), s137, hb_ci_s]
      cases hz : hb_in z 4 with
      | false => exact ⟨_, by rw [hbb_f, if_neg (fun q => q rfl), if_neg (fun q => by cases q.2.2)], m0⟩
      | true =>
        obtain ⟨st, hs, rfl⟩ := q_in_of hx
        obtain ⟨s, hsl, rfl⟩ := q_in_of hy
        obtain ⟨k, hk, rfl⟩ := q_in_of hz
        rw [hbb_t, if_pos (by decide), q_cl (by omega), q_cl (by omega), q_cl (by omega), if_pos (show (true = true ∧ true = true ∧ true = true) from ⟨rfl, rfl, rfl⟩)]
        obtain ⟨σ1, a1, a2, a3⟩ := s168 (A := 77) (Or.inl rfl) hR0 hP (x2 := -1000000) (s := 0) (k := 0) (st := st) (a := false) (by omega) hs (Or.inl ⟨rfl, rfl⟩)
        have m1 := mSA (Or.inl rfl) a2
        obtain ⟨σ2, b1, b2, b3⟩ := s168 (A := 78) (Or.inr rfl) (mS_mR m1 hR0) hP (x2 := nI s) (s := s) (k := k) (st := st) (a := true) hk hs (Or.inr ⟨rfl, by omega, rfl⟩)
        have m2 := mSA (Or.inr rfl) b2
        refine ⟨σ2, ?_, (m0.tr m1).tr m2⟩
        rw [show nI 0 = (0 : Int32) from rfl] at a1
        rw [a1, hb_cv_s, b1, hb_cv_s]
        exact s169_loop (A := fun t => (cz P 0 0 t (st, false)).1 % 1024 / 16) (B := fun t => (cz P s k t (st, true)).1 % 1024 / 16) _ _ _ (fun j hj => by rw [b2 77 (by omega)]; exact a3 j hj) b3 (fun j => h64 _) (fun j => h64 _) 50 1 (by omega)
theorem s32i (σ : hbM) (h : hb_in (σ 31 4) 17 = true) (y : Int32) : hb_ev hbSH 32 [.ref 31, .int y] σ = some (some (.int (hbb (hb_in y (tn σ 31 4)))), σ) := by
  by_cases hy : y < 0
  · rw [v32, e32_0, if_pos hy]
    have : hb_in y (tn σ 31 4) = false := by unfold hb_in; rw [decide_eq_true hy]; rfl
    rw [this]; rfl
  · obtain ⟨k, hk, rfl⟩ := nI_of hy
    rw [s32 σ h (by omega), q_in (by omega)]
theorem o_shows {n : Nat} {σ : hbM} (hJ : J n σ) (x y z : Int32) : Ok2 n 97 169 [.int x, .int y, .int z] σ := by
  obtain ⟨⟨⟨F, B, G, w1, w2, w3, w4, w5, w6, _⟩, _⟩, r, hr, hrJ⟩ := id hJ
  have hP := gI_ok w1
  have key : ∃ σ1, hb_ev hbSH 97 [.ref 13, .int x, .int y, .int z] σ = some (some (.int (if hb_in x 1024 = true ∧ hb_in y (gP σ).1 = true ∧ hb_in z 4 = true then aShw (gP σ) x.toNatClampNeg y.toNatClampNeg z.toNatClampNeg else -1000001)), σ1) ∧ ∀ c, c ≠ 49 → σ1 c = σ c := by
    rw [v97, e97_0, s109n, hb_ci_s]
    cases hx : hb_in x 1024 with
    | false => exact ⟨σ, by rw [hbb_f, if_pos rfl, if_neg (fun q => by cases q.1)], fun _ _ => rfl⟩
    | true =>
      rw [hbb_t, if_neg (by decide), s32i σ w1.1, hb_ci_s, show tn σ 31 4 = (gP σ).1 from rfl]
      cases hy : hb_in y (gP σ).1 with
      | false => exact ⟨σ, by rw [hbb_f, if_pos rfl, if_neg (fun q => by cases q.2.1)], fun _ _ => rfl⟩
      | true =>
        rw [hbb_t, if_neg (by decide), s110n _ _ 4 q_4 (by omega), hb_ci_s]
        cases hz : hb_in z 4 with
        | false => exact ⟨σ, by rw [hbb_f, if_neg (fun q => q rfl), if_neg (fun q => by cases q.2.2)], fun _ _ => rfl⟩
        | true =>
          have hn16 := w2.2.1
          obtain ⟨st, hs, rfl⟩ := q_in_of hx
          obtain ⟨s, hsl, rfl⟩ := q_in_of hy
          obtain ⟨k, hk, rfl⟩ := q_in_of hz
          obtain ⟨σ1, k1, k2⟩ := s64 hP hs (s := s) (by omega) hk w1 rfl
          refine ⟨σ1, ?_, k2⟩
          rw [hbb_t, if_pos (by decide), k1, hb_ci_s, q_cl (by omega), q_cl (by omega), q_cl (by omega), if_pos (show (true = true ∧ true = true ∧ true = true) from ⟨rfl, rfl, rfl⟩)]
          rfl
  obtain ⟨σ1, k1, k2⟩ := key
  have hcS : cS σ σ1 := fun c hc => k2 c (by omega)
  exact Ok2.of hJ k1 hcS ⟨r, by omega, rJ_c (fun c hc => k2 c (by omega)) hrJ⟩ (fun _ => s169 (cS_mR hcS w2) hP x y z)
