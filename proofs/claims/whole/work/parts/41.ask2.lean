/-! ask: the call -/
theorem cql_c : ∀ (l : List Int32) (σ : hbM) (k : Nat) {c : Nat}, c ≠ 35 → c ≠ 31 → cql σ k l c = σ c := by
  intro l
  induction l with
  | nil => intro σ k c _ _; rfl
  | cons v l ih =>
    intro σ k c h1 h2
    show cql (cq σ k v) (k + 1) l c = σ c
    rw [ih _ _ h1 h2]; unfold cq; rw [um_c _ _ _ h2, um_c _ _ _ h1]
theorem cql_i : ∀ (l : List Int32) (σ : hbM) (k : Nat) {i : Nat}, i ≠ 6 → cql σ k l 31 i = σ 31 i := by
  intro l
  induction l with
  | nil => intro σ k i _; rfl
  | cons v l ih =>
    intro σ k i h
    show cql (cq σ k v) (k + 1) l 31 i = σ 31 i
    rw [ih _ _ h]; unfold cq; rw [um_i _ _ _ h, um_c _ _ _ (by omega)]
theorem cql_6 : ∀ (l : List Int32) (σ : hbM) (k : Nat), σ 31 6 = nI k → cql σ k l 31 6 = nI (k + l.length) := by
  intro l
  induction l with
  | nil => intro σ k h; exact h
  | cons v l ih =>
    intro σ k h
    show cql (cq σ k v) (k + 1) l 31 6 = nI (k + (l.length + 1))
    rw [ih _ _ (cq_6 _ _ _)]; exact congrArg nI (by omega)
theorem mql_c : ∀ (l : List Int32) (σ : hbM) (k : Nat) {c : Nat}, c ≠ 79 → c ≠ 54 → mql σ k l c = σ c := by
  intro l
  induction l with
  | nil => intro σ k c _ _; rfl
  | cons v l ih =>
    intro σ k c h1 h2
    show mql (mq σ k v) (k + 1) l c = σ c
    rw [ih _ _ h1 h2]; unfold mq; rw [um_c _ _ _ h2, um_c _ _ _ h1]
theorem mql_i : ∀ (l : List Int32) (σ : hbM) (k : Nat) {i : Nat}, i ≠ 48 → mql σ k l 54 i = σ 54 i := by
  intro l
  induction l with
  | nil => intro σ k i _; rfl
  | cons v l ih =>
    intro σ k i h
    show mql (mq σ k v) (k + 1) l 54 i = σ 54 i
    rw [ih _ _ h]; unfold mq; rw [um_i _ _ _ h, um_c _ _ _ (by omega)]
theorem mql_48 : ∀ (l : List Int32) (σ : hbM) (k : Nat), σ 54 48 = nI k → mql σ k l 54 48 = nI (k + l.length) := by
  intro l
  induction l with
  | nil => intro σ k h; exact h
  | cons v l ih =>
    intro σ k h
    show mql (mq σ k v) (k + 1) l 54 48 = nI (k + (l.length + 1))
    rw [ih _ _ (mq_48 _ _ _)]; exact congrArg nI (by omega)
theorem cm_l : ∀ (l : List Int32) (σ σ' : hbM) (k : Nat), (∀ i, i < k → σ 35 i = σ' 79 i) → ∀ i, i < k + l.length → cql σ k l 35 i = mql σ' k l 79 i := by
  intro l
  induction l with
  | nil => intro σ σ' k h i hi; exact h i hi
  | cons v l ih =>
    intro σ σ' k h i hi
    refine ih (cq σ k v) (mq σ' k v) (k + 1) (fun j hj => ?_) i (by simp only [List.length_cons] at hi; omega)
    unfold cq mq
    rw [um_c _ _ _ (show (35 : Nat) ≠ 31 by omega), um_c _ _ _ (show (79 : Nat) ≠ 54 by omega), um_at, um_at]
    by_cases q : j = k
    · rw [if_pos q, if_pos q]
    · rw [if_neg q, if_neg q]; exact h j (by omega)
theorem ask_J {n : Nat} {σ : hbM} (hJ : J n σ) (l : List Int32) (hl : l.length ≤ 16) : J (n + 1) (mql (hb_up (hb_up (cql (hb_up σ 31 6 0) 0 l) 54 0 0) 54 48 0) 0 l) := by
  obtain ⟨_, h2, h3, h4, h5, h6⟩ := hJ.1
  have e : ∀ c, c ≠ 31 → c ≠ 35 → c ≠ 54 → c ≠ 79 → mql (hb_up (hb_up (cql (hb_up σ 31 6 0) 0 l) 54 0 0) 54 48 0) 0 l c = σ c := fun c q1 q2 q3 q4 => by
    rw [mql_c _ _ _ q4 q3, um_c _ _ _ q3, um_c _ _ _ q3, cql_c _ _ _ q2 q1, um_c _ _ _ q1]
  have e31 : ∀ i, mql (hb_up (hb_up (cql (hb_up σ 31 6 0) 0 l) 54 0 0) 54 48 0) 0 l 31 i = cql (hb_up σ 31 6 0) 0 l 31 i := fun i => by
    rw [mql_c _ _ _ (by omega) (by omega), um_c _ _ _ (by omega), um_c _ _ _ (by omega)]
  have e54 : ∀ i, i ≠ 0 → i ≠ 48 → mql (hb_up (hb_up (cql (hb_up σ 31 6 0) 0 l) 54 0 0) 54 48 0) 0 l 54 i = σ 54 i := fun i q1 q2 => by
    rw [mql_i _ _ _ q2, um_i _ _ _ q2, um_i _ _ _ q1, cql_c _ _ _ (by omega) (by omega), um_c _ _ _ (by omega)]
  refine ⟨J0_x hJ.1 (fun c hc => e c (by omega) (by omega) (by omega) (by omega)) (by rw [e31, cql_i _ _ _ (by omega), um_i _ _ _ (by omega)]) (fun i hi => e54 i (by omega) (by omega)) ?_ ?_ ?_ ?_, jR_gen (fun c hc => e c (by omega) (by omega) (by omega) (by omega)) hJ.2⟩
  · unfold jT; rw [e 39 (by omega) (by omega) (by omega) (by omega), e54 23 (by omega) (by omega), e 40 (by omega) (by omega) (by omega) (by omega), e 67 (by omega) (by omega) (by omega) (by omega)]; exact h3
  · refine ⟨l.length, hl, ?_, ?_, fun i hi => ?_⟩
    · rw [e31, cql_6 l (hb_up σ 31 6 0) 0 (um_s _ _ _ _), Nat.zero_add]
    · rw [mql_48 l (hb_up (hb_up (cql (hb_up σ 31 6 0) 0 l) 54 0 0) 54 48 0) 0 (um_s _ _ _ _), Nat.zero_add]
    · rw [mql_c _ _ _ (show (35 : Nat) ≠ 79 by omega) (by omega), um_c _ _ _ (by omega), um_c _ _ _ (by omega)]
      exact cm_l l _ _ 0 (fun j hj => by omega) i (by omega)
  · intro s hs
    rw [e (15 + s) (by omega) (by omega) (by omega) (by omega), e 55 (by omega) (by omega) (by omega) (by omega), e 56 (by omega) (by omega) (by omega) (by omega), e (23 + s) (by omega) (by omega) (by omega) (by omega), e 57 (by omega) (by omega) (by omega) (by omega)]
    exact h5 s hs
  · unfold jF; rw [e 13 (by omega) (by omega) (by omega) (by omega), e54 1 (by omega) (by omega), e54 24 (by omega) (by omega)]; exact h6
theorem aSize_l (n : Nat) (A T : Nat → Nat) (x : Nat) : (aSize n A T x).2.length ≤ 16 := by
  unfold aSize
  split
  · simp
  · split
    · simp
    · split
      · simp
      · split <;> simp
theorem aMark_l (n : Nat) (A T : Nat → Nat) (x : Nat) : (aMark n A T x).2.length ≤ 16 := by
  unfold aMark
  split
  · simp
  · split
    · simp
    · split
      · simp
      · split <;> simp
theorem o_ask {n : Nat} {σ : hbM} (hJ : J n σ) (x y : Int32) : Ok2 n 101 184 [.int x, .int y] σ := by
  obtain ⟨⟨⟨F, B, G, w⟩, _⟩, _⟩ := id hJ
  have kc := jW_kC w
  have km := jW_kM w
  have hn := km.2.1
  have ek : ∀ (u : Int32) (s : hbM), hb_ev hbSH 112 [.long u.toInt64, .long 0, .long 1] s = some (some (.int (hbb (hb_in u 2))), s) := fun u s => by rw [s112, q_long u 2 (by decide)]
  have m0 : hb_up σ 54 0 0 54 11 = nI (tn σ 31 4) := by rw [um_i _ _ _ (by omega)]; exact km.1
  cases hx : hb_in x (tn σ 31 4) with
  | false =>
    refine Ok2.rd hJ (r := -1000001) ?_ ?_
    · rw [v101, e101_0, s32x w.1.1, hb_ci_s, hx]; rfl
    · rw [v184, e184_0, s174 km.2.1 m0, hb_ci_s, hx]; rfl
  | true =>
    cases hy : hb_in y 2 with
    | false =>
      refine Ok2.rd hJ (r := -1000001) ?_ ?_
      · rw [v101, e101_0, s32x w.1.1, hb_ci_s, hx, hbb_t, if_neg (by decide), s110n _ _ 2 q_2 (by omega), hb_ci_s, hy]; rfl
      · rw [v184, e184_0, s174 km.2.1 m0, hb_ci_s, hx, hbb_t, if_neg (by decide), ek, hb_ci_s, hy]; rfl
    | true =>
      obtain ⟨k, hk, rfl⟩ := q_in_of hx
      obtain ⟨j, hj, rfl⟩ := q_in_of hy
      have kk : ∀ l : List Int32, kM (hb_up (hb_up (cql (hb_up σ 31 6 0) 0 l) 54 0 0) 54 48 0) (tn σ 31 4) (tn σ 32) (tn σ 33) ∧ hb_up (cql (hb_up σ 31 6 0) 0 l) 54 0 0 54 11 = nI (tn σ 31 4) := fun l => by
        obtain ⟨b1, b2, b3⟩ := km
        refine ⟨⟨?_, b2, fun i hi => ?_⟩, ?_⟩
        · rw [um_i _ _ _ (by omega), um_i _ _ _ (by omega), cql_c _ _ _ (by omega) (by omega), um_c _ _ _ (by omega)]; exact b1
        · rw [um_c _ _ _ (show (65 : Nat) ≠ 54 by omega), um_c _ _ _ (show (65 : Nat) ≠ 54 by omega), cql_c _ _ _ (by omega) (by omega), um_c _ _ _ (show (65 : Nat) ≠ 31 by omega), um_c _ _ _ (show (66 : Nat) ≠ 54 by omega), um_c _ _ _ (show (66 : Nat) ≠ 54 by omega), cql_c _ _ _ (by omega) (by omega), um_c _ _ _ (show (66 : Nat) ≠ 31 by omega)]
          exact b3 i hi
        · rw [um_i _ _ _ (by omega), cql_c _ _ _ (by omega) (by omega), um_c _ _ _ (by omega)]; exact b1
      rcases (show j = 0 ∨ j = 1 by omega) with rfl | rfl
      · refine ⟨(aSize (tn σ 31 4) (tn σ 32) (tn σ 33) k).1, cql (hb_up σ 31 6 0) 0 (aSize (tn σ 31 4) (tn σ 32) (tn σ 33) k).2, _, ?_, ?_, ask_J hJ _ (aSize_l (tn σ 31 4) (tn σ 32) (tn σ 33) k)⟩
        · rw [v101, e101_0, s32x w.1.1, hb_ci_s, hx, hbb_t, if_neg (by decide), s110n _ _ 2 q_2 (by omega), hb_ci_s, hy, hbb_t, if_pos (by decide), show nI 0 = (0 : Int32) from rfl, s38s kc hk, hb_ci_s]
        · obtain ⟨q1, q2⟩ := kk (aSize (tn σ 31 4) (tn σ 32) (tn σ 33) k).2
          rw [v184, e184_0, s174 km.2.1 q2, hb_ci_s, hx, hbb_t, if_neg (by decide), ek, hb_ci_s, hy, hbb_t, if_pos (by decide), if_neg (by decide), s175 _ (by omega) (q1.2.2 k hk).1 (q1.2.2 k hk).2.1, hb_ci_s, s183 q1 (um_s _ _ _ _) hk, hb_ci_s]
      · refine ⟨(aMark (tn σ 31 4) (tn σ 32) (tn σ 33) k).1, cql (hb_up σ 31 6 0) 0 (aMark (tn σ 31 4) (tn σ 32) (tn σ 33) k).2, _, ?_, ?_, ask_J hJ _ (aMark_l (tn σ 31 4) (tn σ 32) (tn σ 33) k)⟩
        · rw [v101, e101_0, s32x w.1.1, hb_ci_s, hx, hbb_t, if_neg (by decide), s110n _ _ 2 q_2 (by omega), hb_ci_s, hy, hbb_t, if_pos (by decide), show nI 1 = (1 : Int32) from rfl, s38m kc hk, hb_ci_s]
        · obtain ⟨q1, q2⟩ := kk (aMark (tn σ 31 4) (tn σ 32) (tn σ 33) k).2
          rw [v184, e184_0, s174 km.2.1 q2, hb_ci_s, hx, hbb_t, if_neg (by decide), ek, hb_ci_s, hy, hbb_t, if_pos (by decide), if_pos (by decide), s175 _ (by omega) (q1.2.2 k hk).1 (q1.2.2 k hk).2.1, hb_ci_s, s182 q1 (k := 0) (by omega) (um_s _ _ _ _) hk, hb_ci_s]
