/-! THE EASY CALLS: both sides -/
theorem s135 (σ : hbM) (x : Int32) : hb_ev hbSH 135 [.int x] σ = some (some (.int (hbb (hb_in x 4))), σ) := by
  rw [v135, e135_0, s112, hb_ci_s, q_long x 4 (by decide), hbb_01]; rfl
theorem s137 (σ : hbM) (x : Int32) : hb_ev hbSH 137 [.int x] σ = some (some (.int (hbb (hb_in x 4))), σ) := by
  rw [v137, e137_0, s112, hb_ci_s, q_long x 4 (by decide), hbb_01]; rfl
theorem s154 (σ : hbM) (x y : Int32) : hb_ev hbSH 154 [.int x, .int y] σ = some (some (.int (hbb (hb_in x 17 && hb_in y 1024))), σ) := by
  rw [v154, e154_0, s112, hb_ci_s, q_long x 17 (by decide), s136, hb_ci_s]
  cases hb_in x 17 <;> cases hb_in y 1024 <;> rfl
theorem s110n (σ : hbM) (x : Int32) {c : Int32} (n : Nat) (hc : c = nI n) (hn : n < 2147483648) : hb_ev hbSH 110 [.int x, .int c] σ = some (some (.int (hbb (hb_in x n))), σ) := by
  rw [s110 hbSH1, hc, q_dec _ _ hn]
theorem s109n (σ : hbM) (x : Int32) : hb_ev hbSH 109 [.int x] σ = some (some (.int (hbb (hb_in x 1024))), σ) := by
  rw [s109, show (1024 : Int32) = nI 1024 from rfl, q_dec _ _ (by omega)]
theorem rJ_W {σ σ' : hbM} {r r' : Nat} (h : cW σ σ') (h1 : rI σ' r') (hle : r ≤ r') (hr : rJ σ r) : rJ σ' r' := by
  obtain ⟨_, h2, h3⟩ := hr
  refine ⟨h1, fun s hs => ?_, fun p hp => ?_⟩
  · obtain ⟨v, a, b⟩ := h2 s hs
    exact ⟨v, by omega, by rw [h 51 (by omega)]; exact b⟩
  · obtain ⟨v, a, b⟩ := h3 p hp
    exact ⟨v, by omega, by rw [h 52 (by omega)]; exact b⟩
theorem mS_t (σ : hbM) : mS σ (hb_up σ 54 0 0) := (mS.rf σ).upf _ (Or.inl rfl)
theorem J_s {n : Nat} {σ : hbM} (h : J n σ) : jR (n + 1) σ := jR_le (by omega) h.2
/-- calls that change nothing of the class -/
theorem Ok2.rd {n mX mM : Nat} {as : List Value} {σ : hbM} {r : Int32} (hJ : J n σ) (h1 : hb_ev hbSH mX (.ref 13 :: as) σ = some (some (.int r), σ)) (h2 : hb_ev hbSH mM (.ref 54 :: as) σ = some (some (.int r), hb_up σ 54 0 0)) : Ok2 n mX mM as σ :=
  Ok2.of hJ h1 (cS.rf σ) (J_s hJ) (fun _ => ⟨_, h2, mS_t σ⟩)
/-- run -/
theorem o_run {n : Nat} {σ : hbM} (hJ : J n σ) (hn : n < 1000) (x y : Int32) : Ok2 n 93 158 [.int x, .int y] σ := by
  obtain ⟨⟨⟨F, B, G, w1, w2, w3, w4, w5, _⟩, _⟩, r, hr, hrJ⟩ := id hJ
  obtain ⟨σ1, r', k1, k2, k3, k4, k5⟩ := s93 w1 hrJ.1 (by omega) w5 x y
  refine Ok2.of hJ k1 k2.cS ⟨r', by omega, rJ_W k2 k3 k4 hrJ⟩ (fun _ => ?_)
  have c1 := k2.cS
  exact s158 (cS_mR c1 w2) (cS_mL c1 w3) x y
/-- fault, status -/
theorem o_fault {n : Nat} {σ : hbM} (hJ : J n σ) : Ok2 n 84 134 [] σ := by
  refine Ok2.rd hJ (r := σ 13 10) (by rw [v84, e84_0]) ?_
  rw [v134, e134_0, hJ.1.2.2.2.2.2.2]
theorem o_status {n : Nat} {σ : hbM} (hJ : J n σ) : Ok2 n 104 187 [] σ := by
  refine Ok2.rd hJ (r := σ 13 9) (by rw [v104, e104_0]) ?_
  rw [v187, e187_0, hJ.1.2.2.2.2.2.1]
/-- tick -/
theorem o_tick {n : Nat} {σ : hbM} (hJ : J n σ) (x : Int32) : Ok2 n 88 143 [.int x] σ := by
  obtain ⟨⟨⟨F, B, G, w1, w2, _⟩, _⟩, _⟩ := id hJ
  have m1 := mS_mR (mS_t σ) w2
  cases hx : hb_in x 1024 with
  | false =>
    refine Ok2.rd hJ (r := -1000001) ?_ ?_
    · rw [v88, e88_0, s109n, hb_ci_s, hx]; rfl
    · rw [v143, e143_0, s136, hb_ci_s, hx]; rfl
  | true =>
    obtain ⟨st, hs, rfl⟩ := q_in_of hx
    refine Ok2.rd hJ (r := σ 10 st) ?_ ?_
    · rw [v88, e88_0, s109n, hb_ci_s, hx, hbb_t, if_neg (by decide), hb_g_t, hb_g_nil, q_cl (by omega)]
    · rw [v143, e143_0, s136, hb_ci_s, hx, hbb_t, if_neg (by decide), s142 m1.1 hs, hb_ci_s]
      have h1 := (q_nn (w1.2.2.1 st hs) (by omega)).1
      have h2 := w2.2.2.2.2.1 st hs
      rw [h1]
      rw [← h2]; rfl
/-- judge -/
theorem o_judge {n : Nat} {σ : hbM} (hJ : J n σ) (x y : Int32) : Ok2 n 89 148 [.int x, .int y] σ := by
  obtain ⟨⟨⟨F, B, G, w1, w2, w3, w4, w5, w6, _⟩, _⟩, _⟩ := id hJ
  have l1 := mS_mL (mS_t σ) (Or.inl rfl) w3
  have l2 := mS_mL (mS_t σ) (Or.inr rfl) w4
  have ek : ∀ z : Int32, hb_ev hbSH 112 [.long z.toInt64, .long 0, .long 1] (hb_up σ 54 0 0) = some (some (.int (hbb (hb_in z 2))), hb_up σ 54 0 0) := fun z => by rw [s112, q_long z 2 (by decide)]
  cases hx : hb_in x 1024 with
  | false =>
    refine Ok2.rd hJ (r := -1000001) ?_ ?_
    · rw [v89, e89_0, s109n, hb_ci_s, hx]; rfl
    · rw [v148, e148_0, s136, hb_ci_s, hx]; rfl
  | true =>
    cases hy : hb_in y 2 with
    | false =>
      refine Ok2.rd hJ (r := -1000001) ?_ ?_
      · rw [v89, e89_0, s109n, hb_ci_s, hx, s110n _ _ 2 q_2 (by omega), hb_ci_s, hy]; rfl
      · rw [v148, e148_0, s136, hb_ci_s, hx, ek, hb_ci_s, hy]; rfl
    | true =>
      obtain ⟨st, hs, rfl⟩ := q_in_of hx
      obtain ⟨w, hw, rfl⟩ := q_in_of hy
      rcases (show w = 0 ∨ w = 1 by omega) with rfl | rfl
      · refine Ok2.rd hJ (r := hbb (wAny B st B.1)) ?_ ?_
        · rw [v89, e89_0, s109n, hb_ci_s, hx, hbb_t, if_neg (by decide), s110n _ _ 2 q_2 (by omega), hb_ci_s, hy, hbb_t, if_pos (by decide), if_neg (by decide), hb_g_t, hb_g_nil, q_cl (by omega), w5 st hs, e89_43, s111 hbSH1, hb_ci_s]
        · rw [v148, e148_0, s136, hb_ci_s, hx, hbb_t, if_neg (by decide), ek, hb_ci_s, hy, hbb_t, if_pos (by decide), if_neg (by decide), s146 l1 hs, hb_ci_s]
          cases wAny B st B.1 <;> rfl
      · refine Ok2.rd hJ (r := hbb (wGood B G st)) ?_ ?_
        · rw [v89, e89_0, s109n, hb_ci_s, hx, hbb_t, if_neg (by decide), s110n _ _ 2 q_2 (by omega), hb_ci_s, hy, hbb_t, if_pos (by decide), if_pos (by decide), hb_g_t, hb_g_nil, q_cl (by omega), w6 st hs, e89_43, s111 hbSH1, hb_ci_s]
        · rw [v148, e148_0, s136, hb_ci_s, hx, hbb_t, if_neg (by decide), ek, hb_ci_s, hy, hbb_t, if_pos (by decide), if_pos (by decide), s147 l1 l2 hs, hb_ci_s]
          cases wGood B G st <;> rfl
/-- on -/
theorem o_on {n : Nat} {σ : hbM} (hJ : J n σ) (x y : Int32) : Ok2 n 91 155 [.int x, .int y] σ := by
  obtain ⟨⟨⟨F, B, G, w1, w2, _⟩, _⟩, _⟩ := id hJ
  have m1 := mS_mR (mS_t σ) w2
  cases hx : hb_in x 17 with
  | false =>
    refine Ok2.rd hJ (r := -1000001) ?_ ?_
    · rw [v91, e91_0, s110n _ _ 17 q_17 (by omega), hb_ci_s, hx]; rfl
    · rw [v155, e155_0, s154, hb_ci_s, hx]; rfl
  | true =>
    cases hy : hb_in y 1024 with
    | false =>
      refine Ok2.rd hJ (r := -1000001) ?_ ?_
      · rw [v91, e91_0, s110n _ _ 17 q_17 (by omega), hb_ci_s, hx, s109n, hb_ci_s, hy]; rfl
      · rw [v155, e155_0, s154, hb_ci_s, hx, hy]; rfl
    | true =>
      obtain ⟨k, hk, rfl⟩ := q_in_of hx
      obtain ⟨st, hs, rfl⟩ := q_in_of hy
      have e1 : nI k * (1024 : Int32) + nI st = nI (1024 * k + st) := by rw [q_1024, q_mul, q_add, Nat.mul_comm]
      have e2 : (1024 : Int32) * nI k + nI st = nI (1024 * k + st) := by rw [q_1024, q_mul, q_add]
      refine Ok2.rd hJ (r := hbo (gOn (gP σ) (1024 * k + st))) ?_ ?_
      · rw [v91, e91_0, s110n _ _ 17 q_17 (by omega), hb_ci_s, hx, hbb_t, if_neg (by decide), s109n, hb_ci_s, hy, hbb_t, if_pos (by decide), e1, s8 w1 (by omega), hb_ci_s]
      · rw [v155, e155_0, s154, hb_ci_s, hx, hy, Bool.and_self, hbb_t, if_neg (by decide), e2, s152 m1 (by omega), hb_ci_s]
/-- slip -/
theorem o_slip {n : Nat} {σ : hbM} (hJ : J n σ) (x y z : Int32) : Ok2 n 92 156 [.int x, .int y, .int z] σ := by
  obtain ⟨⟨⟨F, B, G, w1, w2, _⟩, _⟩, _⟩ := id hJ
  have m1 := mS_mR (mS_t σ) w2
  cases hx : hb_in x 17 with
  | false =>
    refine Ok2.rd hJ (r := -1000001) ?_ ?_
    · rw [v92, e92_0, s110n _ _ 17 q_17 (by omega), hb_ci_s, hx]; rfl
    · rw [v156, e156_0, s154, hb_ci_s, hx]; rfl
  | true =>
    cases hy : hb_in y 1024 with
    | false =>
      refine Ok2.rd hJ (r := -1000001) ?_ ?_
      · rw [v92, e92_0, s110n _ _ 17 q_17 (by omega), hb_ci_s, hx, s109n, hb_ci_s, hy]; rfl
      · rw [v156, e156_0, s154, hb_ci_s, hx, hy]; rfl
    | true =>
      cases hz : hb_in z 4 with
      | false =>
        refine Ok2.rd hJ (r := -1000001) ?_ ?_
        · rw [v92, e92_0, s110n _ _ 17 q_17 (by omega), hb_ci_s, hx, s109n, hb_ci_s, hy, s110n _ _ 4 q_4 (by omega), hb_ci_s, hz]; rfl
        · rw [v156, e156_0, s154, hb_ci_s, hx, hy, s137, hb_ci_s, hz]; rfl
      | true =>
        obtain ⟨k, hk, rfl⟩ := q_in_of hx
        obtain ⟨st, hs, rfl⟩ := q_in_of hy
        obtain ⟨j, hj, rfl⟩ := q_in_of hz
        have e1 : nI k * (1024 : Int32) + nI st = nI (1024 * k + st) := by rw [q_1024, q_mul, q_add, Nat.mul_comm]
        have e2 : (1024 : Int32) * nI k + nI st = nI (1024 * k + st) := by rw [q_1024, q_mul, q_add]
        refine Ok2.rd hJ (r := hbo (gSl (gP σ) (1024 * k + st) j)) ?_ ?_
        · rw [v92, e92_0, s110n _ _ 17 q_17 (by omega), hb_ci_s, hx, hbb_t, if_neg (by decide), s109n, hb_ci_s, hy, hbb_t, if_neg (by decide), s110n _ _ 4 q_4 (by omega), hb_ci_s, hz, hbb_t, if_pos (by decide), e1, s10 w1 (by omega) hj, hb_ci_s]
        · rw [v156, e156_0, s154, hb_ci_s, hx, hy, Bool.and_self, hbb_t, if_neg (by decide), s137, hb_ci_s, hz, hbb_t, if_neg (by decide), e2, s153 m1 (by omega) hj, hb_ci_s]
