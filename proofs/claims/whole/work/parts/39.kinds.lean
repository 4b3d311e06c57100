/-! kind, as, trace, ask -/
def kO (a : Nat) : Nat := if a = 0 then 2 else if a = 1 then 1 else if a = 2 then 3 else if a = 5 then 5 else 4
def kK (q j : Nat) : Bool := decide (j = 0 ∨ q = j ∨ (j = 1 ∧ q = 2) ∨ (j = 4 ∧ q = 5))
theorem s32x {σ : hbM} (h : hb_in (σ 31 4) 17 = true) (x : Int32) : hb_ev hbSH 32 [.ref 31, .int x] σ = some (some (.int (hbb (hb_in x (tn σ 31 4)))), σ) := by
  by_cases hx : x < 0
  · rw [v32, e32_0, if_pos hx]
    have : hb_in x (tn σ 31 4) = false := by unfold hb_in; simp [hx]
    rw [this]; rfl
  · obtain ⟨k, hk, rfl⟩ := nI_of hx
    rw [s32 σ h (by omega), q_in (by omega)]
theorem s35 (σ : hbM) {k a : Nat} (hk : k < 16) (ha : a < 6) (h : σ 32 k = nI a) : hb_ev hbSH 35 [.ref 31, .int (nI k)] σ = some (some (.int (nI (kO a))), σ) := by
  rw [v35, e35_0, q_inT (by omega) hk, hb_g_t, hb_g_nil, q_cl (by omega), h]
  rcases (show a = 0 ∨ a = 1 ∨ a = 2 ∨ a = 3 ∨ a = 4 ∨ a = 5 by omega) with rfl | rfl | rfl | rfl | rfl | rfl <;> rfl
theorem s175 (σ : hbM) {k a : Nat} (hk : k < 16) (ha : a < 6) (h : σ 65 k = nI (cact a)) : hb_ev hbSH 175 [.ref 54, .int (nI k)] σ = some (some (.int (nI (kO a))), σ) := by
  rw [v175, e175_0, q_inT (by omega) hk, hb_g_t, hb_g_nil, q_cl (by omega), h]
  rcases (show a = 0 ∨ a = 1 ∨ a = 2 ∨ a = 3 ∨ a = 4 ∨ a = 5 by omega) with rfl | rfl | rfl | rfl | rfl | rfl <;> rfl
theorem n_1 : ∀ n, n < 17 → ((nI n - 1).toInt64).toInt = (n : Int) - 1 := by decide +kernel
theorem s174 {σ : hbM} {n : Nat} (hn : n ≤ 16) (h : σ 54 11 = nI n) (x : Int32) : hb_ev hbSH 174 [.ref 54, .int x] σ = some (some (.int (hbb (hb_in x n))), σ) := by
  rw [v174, e174_0, h, s112, hb_ci_s, q_long x n (n_1 n (by omega)), hbb_01]; rfl
theorem s36 (σ : hbM) {k a j : Nat} (hk : k < 16) (ha : a < 6) (h : σ 32 k = nI a) (hj : j < 6) : hb_ev hbSH 36 [.ref 31, .int (nI k), .int (nI j)] σ = some (some (.int (hbb (kK (kO a) j))), σ) := by
  rw [v36, e36_0, s35 σ hk ha h, hb_ci_s]
  rcases (show a = 0 ∨ a = 1 ∨ a = 2 ∨ a = 3 ∨ a = 4 ∨ a = 5 by omega) with rfl | rfl | rfl | rfl | rfl | rfl <;> rcases (show j = 0 ∨ j = 1 ∨ j = 2 ∨ j = 3 ∨ j = 4 ∨ j = 5 by omega) with rfl | rfl | rfl | rfl | rfl | rfl <;> rfl
theorem s176 (σ : hbM) {a j : Nat} (ha : a < 6) (hj : j < 6) : hb_ev hbSH 176 [.int (nI (kO a)), .int (nI j)] σ = some (some (.int (hbb (kK (kO a) j))), σ) := by
  rw [v176, e176_0]
  rcases (show a = 0 ∨ a = 1 ∨ a = 2 ∨ a = 3 ∨ a = 4 ∨ a = 5 by omega) with rfl | rfl | rfl | rfl | rfl | rfl <;> rcases (show j = 0 ∨ j = 1 ∨ j = 2 ∨ j = 3 ∨ j = 4 ∨ j = 5 by omega) with rfl | rfl | rfl | rfl | rfl | rfl <;> rfl
/-- the steps, as the class and as the reference hold them -/
def kC (σ : hbM) (n : Nat) (A T : Nat → Nat) : Prop := σ 31 4 = nI n ∧ n ≤ 16 ∧ ∀ i, i < n → A i < 6 ∧ σ 32 i = nI (A i) ∧ T i < 16 ∧ σ 33 i = nI (T i)
def kM (σ : hbM) (n : Nat) (A T : Nat → Nat) : Prop := σ 54 11 = nI n ∧ n ≤ 16 ∧ ∀ i, i < n → A i < 6 ∧ σ 65 i = nI (cact (A i)) ∧ T i < 16 ∧ (A i ≠ 2 → A i ≠ 5 → σ 66 i = nI (T i))
theorem jW_kC {σ : hbM} {F : hbF} {B G : hbL} (h : jW σ F B G) : kC σ (tn σ 31 4) (tn σ 32) (tn σ 33) := by
  obtain ⟨h1, h2, _⟩ := h.1
  have h3 := q_nn h1 (by omega)
  refine ⟨h3.1, by have := h3.2; unfold tn; omega, fun i hi => ?_⟩
  obtain ⟨a1, a2, _⟩ := h2 i hi
  exact ⟨(q_nn a1 (by omega)).2, (q_nn a1 (by omega)).1, (q_nn a2 (by omega)).2, (q_nn a2 (by omega)).1⟩
theorem jW_kM {σ : hbM} {F : hbF} {B G : hbL} (h : jW σ F B G) : kM σ (tn σ 31 4) (tn σ 32) (tn σ 33) := by
  obtain ⟨_, hn, hn2, hi, _⟩ := h.2.1
  exact ⟨hn2, hn, fun i hk => ⟨(hi i hk).1, (hi i hk).2.1, (hi i hk).2.2.1, (hi i hk).2.2.2.2.1⟩⟩
theorem o_kind {n : Nat} {σ : hbM} (hJ : J n σ) (x : Int32) : Ok2 n 99 177 [.int x] σ := by
  obtain ⟨⟨⟨F, B, G, w⟩, _⟩, _⟩ := id hJ
  have kc := jW_kC w
  have km := jW_kM w
  have m1 : hb_up σ 54 0 0 54 11 = nI (tn σ 31 4) := by rw [um_i _ _ _ (by omega)]; exact km.1
  cases hx : hb_in x (tn σ 31 4) with
  | false =>
    refine Ok2.rd hJ (r := -1000001) ?_ ?_
    · rw [v99, e99_0, s32x w.1.1, hb_ci_s, hx]; rfl
    · rw [v177, e177_0, s174 km.2.1 m1, hb_ci_s, hx]; rfl
  | true =>
    obtain ⟨k, hk, rfl⟩ := q_in_of hx
    have hn := km.2.1
    refine Ok2.rd hJ (r := nI (kO (tn σ 32 k))) ?_ ?_
    · rw [v99, e99_0, s32x w.1.1, hb_ci_s, hx, hbb_t, if_neg (by decide), s35 σ (by omega) (kc.2.2 k hk).1 (kc.2.2 k hk).2.1, hb_ci_s]
    · rw [v177, e177_0, s174 km.2.1 m1, hb_ci_s, hx, hbb_t, if_neg (by decide), s175 _ (by omega) (km.2.2 k hk).1 (by rw [um_c _ _ _ (by omega)]; exact (km.2.2 k hk).2.1), hb_ci_s]
/-- the graph stays; tape, trace, sheets, finding as said -/
theorem J0_x {σ σ' : hbM} (hJ : J0 σ) (a : ∀ c, (c < 13 ∨ 32 ≤ c ∧ c < 35 ∨ c = 37 ∨ c = 38 ∨ 58 ≤ c ∧ c < 67 ∨ c = 68 ∨ c = 69) → σ' c = σ c) (a31 : σ' 31 4 = σ 31 4) (a54 : ∀ i, (i = 5 ∨ i = 9 ∨ i = 10 ∨ i = 11 ∨ i = 34) → σ' 54 i = σ 54 i) (ht : jT σ') (hA : jA σ') (hs : jS σ') (hf : jF σ') : J0 σ' := by
  obtain ⟨⟨F, B, G, w⟩, h2, h3, h4, h5, h6⟩ := hJ
  refine ⟨⟨F, B, G, jW_gen w (fun c hc => a c (by omega)) (by rw [a 0 (by omega)]) a31 (fun i hi => a54 i (by omega)) ?_ ?_⟩, ?_, ht, hA, hs, hf⟩
  · rw [a 0 (by omega), a54 34 (by omega)]; exact jW_b w
  · rw [a 37 (by omega), a 68 (by omega)]; exact jW_l w
  · unfold jP; rw [a 38 (by omega), a 69 (by omega)]; exact h2
/-- only the finding has changed -/
theorem J_f {n : Nat} {σ σ' : hbM} (hJ : J n σ) (a : ∀ c, c ≠ 13 → c ≠ 54 → σ' c = σ c) (a54 : ∀ i, i ≠ 0 → i ≠ 1 → i ≠ 24 → σ' 54 i = σ 54 i) (hf : jF σ') : J (n + 1) σ' := by
  obtain ⟨_, h2, h3, h4, h5, h6⟩ := hJ.1
  refine ⟨J0_x hJ.1 (fun c hc => a c (by omega) (by omega)) (by rw [a 31 (by omega) (by omega)]) (fun i hi => a54 i (by omega) (by omega) (by omega)) ?_ ?_ ?_ hf, jR_gen (fun c hc => a c (by omega) (by omega)) hJ.2⟩
  · unfold jT; rw [a 39 (by omega) (by omega), a54 23 (by omega) (by omega) (by omega), a 40 (by omega) (by omega), a 67 (by omega) (by omega)]; exact h3
  · unfold jA; rw [a 31 (by omega) (by omega), a54 48 (by omega) (by omega) (by omega), a 35 (by omega) (by omega), a 79 (by omega) (by omega)]; exact h4
  · intro s hs
    rw [a (15 + s) (by omega) (by omega), a 55 (by omega) (by omega), a 56 (by omega) (by omega), a (23 + s) (by omega) (by omega), a 57 (by omega) (by omega)]
    exact h5 s hs
theorem o_as {n : Nat} {σ : hbM} (hJ : J n σ) (x y : Int32) : Ok2 n 100 178 [.int x, .int y] σ := by
  obtain ⟨⟨⟨F, B, G, w⟩, _, _, _, _, hf⟩, _⟩ := id hJ
  have kc := jW_kC w
  have km := jW_kM w
  have hn := km.2.1
  have ek : ∀ (u : Int32) (s : hbM), hb_ev hbSH 112 [.long u.toInt64, .long 0, .long 5] s = some (some (.int (hbb (hb_in u 6))), s) := fun u s => by rw [s112, q_long u 6 (by decide)]
  have m0 : hb_up σ 54 0 0 54 11 = nI (tn σ 31 4) := by rw [um_i _ _ _ (by omega)]; exact km.1
  cases hx : hb_in x (tn σ 31 4) with
  | false =>
    refine Ok2.rd hJ (r := -1000001) ?_ ?_
    · rw [v100, e100_0, s32x w.1.1, hb_ci_s, hx]; rfl
    · rw [v178, e178_0, s174 km.2.1 m0, hb_ci_s, hx]; rfl
  | true =>
    cases hy : hb_in y 6 with
    | false =>
      refine Ok2.rd hJ (r := -1000001) ?_ ?_
      · rw [v100, e100_0, s32x w.1.1, hb_ci_s, hx, hbb_t, if_neg (by decide), s110n _ _ 6 q_6 (by omega), hb_ci_s, hy]; rfl
      · rw [v178, e178_0, s174 km.2.1 m0, hb_ci_s, hx, hbb_t, if_neg (by decide), ek, hb_ci_s, hy]; rfl
    | true =>
      obtain ⟨k, hk, rfl⟩ := q_in_of hx
      obtain ⟨j, hj, rfl⟩ := q_in_of hy
      obtain ⟨a1, a2, _⟩ := kc.2.2 k hk
      obtain ⟨_, b2, _⟩ := km.2.2 k hk
      have m1 : ∀ v : Int32, hb_up σ 13 9 v 54 11 = nI (tn σ 31 4) := fun v => by rw [um_c _ _ _ (by omega)]; exact km.1
      have m2 : ∀ v : Int32, hb_up (hb_up σ 13 9 v) 54 0 0 54 11 = nI (tn σ 31 4) := fun v => by rw [um_i _ _ _ (by omega)]; exact m1 v
      have m3 : ∀ v : Int32, hb_up (hb_up (hb_up σ 13 9 v) 54 0 0) 54 1 0 65 k = nI (cact (tn σ 32 k)) := fun v => by rw [um_c _ _ _ (by omega), um_c _ _ _ (by omega), um_c _ _ _ (by omega)]; exact b2
      cases hK : kK (kO (tn σ 32 k)) j with
      | true =>
        refine ⟨nI k, hb_up σ 13 9 0, hb_up (hb_up (hb_up σ 13 9 0) 54 0 0) 54 1 0, ?_, ?_, J_f hJ (fun c q1 q2 => by rw [um_c _ _ _ q2, um_c _ _ _ q2, um_c _ _ _ q1]) (fun i q1 q2 q3 => by rw [um_i _ _ _ q2, um_i _ _ _ q1, um_c _ _ _ (by omega)]) ⟨?_, ?_⟩⟩
        · rw [v100, e100_0, s32x w.1.1, hb_ci_s, hx, hbb_t, if_neg (by decide), s110n _ _ 6 q_6 (by omega), hb_ci_s, hy, hbb_t, if_pos (by decide), s36 σ (by omega) a1 a2 hj, hb_ci_s, hK, hbb_t, if_neg (by decide), v106, e106_0, hb_ci_s]
        · rw [v178, e178_0, s174 km.2.1 (m2 0), hb_ci_s, hx, hbb_t, if_neg (by decide), ek, hb_ci_s, hy, hbb_t, if_pos (by decide), s175 _ (by omega) a1 (m3 0), hb_ci_s, s176 _ a1 hj, hb_ci_s, hK, hbb_t, if_neg (by decide)]
        · rw [um_c _ _ _ (by omega), um_c _ _ _ (by omega), um_s, um_s]
        · rw [um_c _ _ _ (by omega), um_c _ _ _ (by omega), um_i _ _ _ (by omega), um_i _ _ _ (by omega), um_i _ _ _ (by omega), um_c _ _ _ (by omega)]; exact hf.2
      | false =>
        refine ⟨(-1000010 : Int32) - 3, hb_up σ 13 9 3, hb_up (hb_up (hb_up (hb_up σ 13 9 3) 54 0 0) 54 1 0) 54 1 3, ?_, ?_, J_f hJ (fun c q1 q2 => by rw [um_c _ _ _ q2, um_c _ _ _ q2, um_c _ _ _ q2, um_c _ _ _ q1]) (fun i q1 q2 q3 => by rw [um_i _ _ _ q2, um_i _ _ _ q2, um_i _ _ _ q1, um_c _ _ _ (by omega)]) ⟨?_, ?_⟩⟩
        · rw [v100, e100_0, s32x w.1.1, hb_ci_s, hx, hbb_t, if_neg (by decide), s110n _ _ 6 q_6 (by omega), hb_ci_s, hy, hbb_t, if_pos (by decide), s36 σ (by omega) a1 a2 hj, hb_ci_s, hK, hbb_f, if_pos (by decide), v105, e105_0, hb_ci_s]
        · rw [v178, e178_0, s174 km.2.1 (m2 3), hb_ci_s, hx, hbb_t, if_neg (by decide), ek, hb_ci_s, hy, hbb_t, if_pos (by decide), s175 _ (by omega) a1 (m3 3), hb_ci_s, s176 _ a1 hj, hb_ci_s, hK, hbb_f, if_pos (by decide), v113, e113_0, hb_ci_s]
        · rw [um_c _ _ _ (by omega), um_c _ _ _ (by omega), um_c _ _ _ (by omega), um_s, um_s]
        · rw [um_c _ _ _ (by omega), um_c _ _ _ (by omega), um_c _ _ _ (by omega), um_i _ _ _ (by omega), um_i _ _ _ (by omega), um_i _ _ _ (by omega), um_i _ _ _ (by omega), um_c _ _ _ (by omega)]; exact hf.2
theorem o_trace {n : Nat} {σ : hbM} (hJ : J n σ) (x : Int32) : Ok2 n 102 185 [.int x] σ := by
  obtain ⟨⟨_, _, _, ⟨t, t1, t2, t3, t4⟩, _⟩, _⟩ := id hJ
  cases hx : hb_in x t with
  | false =>
    refine Ok2.rd hJ (r := -1000000) ?_ ?_
    · rw [v102, e102_0, t2, s110n _ _ t rfl (by omega), hb_ci_s, hx]; rfl
    · rw [v185, e185_0, t3, s112, hb_ci_s, q_long x t (n_1 t (by omega)), hx]; rfl
  | true =>
    obtain ⟨k, hk, rfl⟩ := q_in_of hx
    refine Ok2.rd hJ (r := σ 35 k) ?_ ?_
    · rw [v102, e102_0, t2, s110n _ _ t rfl (by omega), hb_ci_s, hx, hbb_t, if_neg (by decide), q_inT (by omega) (by omega), hb_g_t, hb_g_nil, q_cl (by omega)]
    · rw [v185, e185_0, t3, s112, hb_ci_s, q_long _ t (n_1 t (by omega)), hx, hbb_t, if_neg (by decide), q_inT (by omega) (by omega), hb_g_t, hb_g_nil, q_cl (by omega), um_c _ _ _ (by omega), t4 k hk]
