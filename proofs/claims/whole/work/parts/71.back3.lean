/-! back: the class -/
theorem s68 {σ : hbM} (hg : gI σ) {st k : Nat} (hs : st < 1024) (hk : k < 5) : hb_ev hbSH 68 [.ref 49, .int (nI st), .int (nI k)] σ = some (some (.int (nI (gdd (gP σ) st k))), σ) := by
  obtain ⟨h1, h2, h3, h4, h5⟩ := hg
  rw [v68, e68_0]
  unfold gdd
  by_cases hk0 : k = 0
  · obtain ⟨e1, _⟩ := q_nn (h3 st hs) (by omega)
    rw [hk0, if_neg (fun z => z rfl), q_inT (by omega) hs, hb_g_t, hb_g_nil, q_cl (by omega), if_pos rfl, e1]
    rfl
  · have e1 : nI k - (1 : Int32) = nI (k - 1) := by rw [q_1, q_sub (by omega)]
    have hdl : st / 2 ^ (k - 1) < 1024 := Nat.lt_of_le_of_lt (Nat.div_le_self _ _) hs
    have hc : (¬ ((nI st >>> (nI (k - 1) &&& 31)) &&& (1 : Int32)) = 0) = (¬ st / 2 ^ (k - 1) % 2 = 0) := by
      rw [q_shr (by omega) (by omega), q_1, q_and, q_a1, q_0, q_eq (by omega) (by omega)]
    rw [if_pos (fun z => hk0 (by rw [q_0, q_eq (by omega) (by omega)] at z; exact z)), e1, if_neg hk0]
    simp only [hc]
    by_cases z : st / 2 ^ (k - 1) % 2 = 0
    · rw [if_neg (fun y => y z), e68_37, decide_eq_true z, show (1 : Int32) = hbb true from rfl, s71 σ h3 h4 hs (by omega), hb_ci_s]; rfl
    · rw [if_pos z, e68_37, decide_eq_false z, show (0 : Int32) = hbb false from rfl, s71 σ h3 h4 hs (by omega), hb_ci_s]; rfl
section
variable {P : hbGP} {bd gd : Nat → Bool}
theorem Pt_snoc {j : Nat} (hj : j < 5) : ∀ (m y x : Nat), Pt P bd m y x → bd (gdd P x j) = false → Pt P bd (m + 1) y (gdd P x j) := by
  intro m
  induction m with
  | zero => intro y x h hb; have h : y = x := h; rw [h]; exact ⟨j, hj, hb, rfl⟩
  | succ m ih =>
    intro y x h hb
    obtain ⟨i, hi, h1, h2⟩ := h
    exact ⟨i, hi, h1, ih _ _ h2 hb⟩
theorem dij {V : Nat → Bool} {ky : Nat → Nat} {pr : Nat → Prop} (hc : ∀ y, V y = true → pr y → ∀ j, j < 5 → bd (gdd P y j) = true ∨ (V (gdd P y j) = true ∧ (ky (gdd P y j) ≤ ky y + 5 ∨ ky (gdd P y j) ≤ 9))) : ∀ (m y x c : Nat), V y = true → ky y ≤ c → 5 ≤ c → Pt P bd m y x → (V x = true ∧ ky x ≤ c + 5 * m) ∨ ∃ z, V z = true ∧ ¬ pr z ∧ ky z + 5 ≤ c + 5 * m := by
  intro m
  induction m with
  | zero => intro y x c hy hk _ h; have h : y = x := h; rw [← h]; exact Or.inl ⟨hy, by omega⟩
  | succ m ih =>
    intro y x c hy hk h5 h
    by_cases hp : pr y
    · obtain ⟨j, hj, hb, h2⟩ := h
      rcases hc y hy hp j hj with z | ⟨z1, z2⟩
      · rw [hb] at z; cases z
      · rcases ih _ x (c + 5) z1 (by omega) (by omega) h2 with ⟨a, b⟩ | ⟨z, a, b, d⟩
        · exact Or.inl ⟨a, by omega⟩
        · exact Or.inr ⟨z, a, b, by omega⟩
    · exact Or.inr ⟨y, hy, hp, by omega⟩
end
def bky (d f : Nat → Nat) (x : Nat) : Nat := 5 * d x + f x
/-- the key of a child of the a-th in the row -/
def kcA (d f row : Nat → Nat) (a j : Nat) : Nat := if a = 0 then 5 + j else bky d f (row a) + 5
def bQ (P : hbGP) (bd gd : Nat → Bool) (r st n : Nat) (row d f : Nat → Nat) (σ : hbM) : Prop :=
  (gI σ ∧ gP σ = P ∧ rI σ r ∧ (∀ s, s < 1024 → σ 11 s = hbb (bd s)) ∧ ∀ s, s < 1024 → σ 12 s = hbb (gd s)) ∧
  (∀ k, k < n → σ 45 k = nI (row k) ∧ row k < 1024 ∧ mk σ r (row k) 0 = true ∧ d (row k) ≤ k ∧ σ 46 (row k) = nI (d (row k)) ∧ gd (row k) = false) ∧
  (∀ p, p < 1024 → mk σ r p 0 = true → ∃ k, k < n ∧ row k = p) ∧ n = cnt (fun p => mk σ r p 0) 1024 ∧
  (0 < n ∧ row 0 = st ∧ d st = 0 ∧ f st = 0) ∧
  (∀ k, 1 ≤ k → k < n → row k ≠ st ∧ f (row k) < 5 ∧ σ 47 (row k) = nI (f (row k)) ∧ bd (gdd P st (f (row k))) = false ∧ ∃ m, d (row k) = m + 1 ∧ Pt P bd m (gdd P st (f (row k))) (row k)) ∧
  (∀ a b, a ≤ b → b < n → bky d f (row a) ≤ bky d f (row b)) ∧ σ 49 6 = hbNO ∧ σ 49 7 = hbNO
/-- the first i of the row have had their deeds, the next one its first q -/
def bCl (P : hbGP) (bd : Nat → Bool) (r i q : Nat) (row d f : Nat → Nat) (σ : hbM) : Prop := ∀ a j, j < 5 → (a < i ∨ (a = i ∧ j < q)) → bd (gdd P (row a) j) = true ∨ (mk σ r (gdd P (row a) j) 0 = true ∧ bky d f (gdd P (row a) j) ≤ kcA d f row a j)
section
variable {P : hbGP} {bd gd : Nat → Bool} {r st : Nat}
/-- what is found is least -/
theorem b_min (hT : ∀ s, s < 1024 → P.2.2.2.2.1 s < 1024) {n i q : Nat} {row d f : Nat → Nat} {σ : hbM} (hst : st < 1024) (hQ : bQ P bd gd r st n row d f σ) (hi : i < n) (hq : q < 5) (hC : bCl P bd r i q row d f σ) (m k x : Nat) (hk : k < 5) (hg : gd x = true) (hb : bd (gdd P st k) = false) (hp : Pt P bd m (gdd P st k) x) : kcA d f row i q ≤ 5 * (m + 1) + k := by
  obtain ⟨q1, q2, q3, q4, ⟨q5, q6, q7, q8⟩, q9, q10, _⟩ := hQ
  have hng : ∀ p, p < 1024 → mk σ r p 0 = true → gd p = false := fun p hp hm => by
    obtain ⟨a, ha, e⟩ := q3 p hp hm
    rw [← e]; exact (q2 a ha).2.2.2.2.2
  have hPlt : ∀ m y x, y < 1024 → Pt P bd m y x → x < 1024 := by
    intro m
    induction m with
    | zero => intro y x hy h; have h : y = x := h; rw [← h]; exact hy
    | succ m ih =>
      intro y x hy h
      obtain ⟨j, hj, _, h2⟩ := h
      exact ih _ x (gdd_lt hT hy hj) h2
  have hdk := gdd_lt hT hst hk
  have hx := hPlt m _ x hdk hp
  by_cases hi0 : i = 0
  · unfold kcA
    rw [if_pos hi0]
    by_cases hkq : k < q
    · rcases hC 0 k hk (Or.inr ⟨hi0.symm, hkq⟩) with z | ⟨z, _⟩
      · rw [q6, hb] at z; cases z
      · rw [q6] at z
        cases m with
        | zero =>
          have hp : gdd P st k = x := hp
          rw [hp] at z
          rw [hng x hx z] at hg; cases hg
        | succ m => omega
    · omega
  · have h0 : mk σ r (gdd P st k) 0 = true ∧ bky d f (gdd P st k) ≤ 5 + k := by
      rcases hC 0 k hk (Or.inl (by omega)) with z | z
      · rw [q6, hb] at z; cases z
      · rw [q6] at z
        exact ⟨z.1, by have := z.2; unfold kcA at this; rw [if_pos rfl] at this; exact this⟩
    have hd := dij (P := P) (bd := bd) (V := fun p => decide (p < 1024) && mk σ r p 0) (ky := bky d f) (pr := fun y => ∃ a, a < i ∧ row a = y) (fun y hy hpr j hj => by
      obtain ⟨a, ha, e⟩ := hpr
      simp only [Bool.and_eq_true, decide_eq_true_eq] at hy
      rcases hC a j hj (Or.inl ha) with z | ⟨z1, z2⟩
      · rw [e] at z; exact Or.inl z
      · rw [e] at z1 z2
        refine Or.inr ⟨by rw [Bool.and_eq_true, decide_eq_true_eq]; exact ⟨gdd_lt hT hy.1 hj, z1⟩, ?_⟩
        unfold kcA at z2
        split at z2
        · exact Or.inr (by omega)
        · rw [e] at z2; exact Or.inl z2) m (gdd P st k) x (5 + k) (by rw [Bool.and_eq_true, decide_eq_true_eq]; exact ⟨hdk, h0.1⟩) h0.2 (by omega) hp
    rcases hd with ⟨z, _⟩ | ⟨z, z1, z2, z3⟩
    · rw [Bool.and_eq_true, decide_eq_true_eq] at z
      rw [hng x hx z.2] at hg; cases hg
    · rw [Bool.and_eq_true, decide_eq_true_eq] at z1
      obtain ⟨b, hb2, e⟩ := q3 z z1.1 z1.2
      have hib : i ≤ b := by
        by_cases y : b < i
        · exact absurd ⟨b, y, e⟩ z2
        · omega
      have := q10 i b hib hb2
      rw [e] at this
      unfold kcA
      rw [if_neg hi0]
      omega
theorem b_none (hT : ∀ s, s < 1024 → P.2.2.2.2.1 s < 1024) {n i : Nat} {row d f : Nat → Nat} {σ : hbM} (hst : st < 1024) (hQ : bQ P bd gd r st n row d f σ) (hi : n ≤ i) (hC : bCl P bd r i 0 row d f σ) : bS P bd gd st none := by
  obtain ⟨q1, q2, q3, q4, ⟨q5, q6, q7, q8⟩, q9, q10, _⟩ := hQ
  intro m k x hk hg hb hp
  have h0 : mk σ r (gdd P st k) 0 = true := by
    rcases hC 0 k hk (Or.inl (by omega)) with z | z
    · rw [q6, hb] at z; cases z
    · rw [q6] at z; exact z.1
  have hcl : ∀ m y, y < 1024 → mk σ r y 0 = true → Pt P bd m y x → x < 1024 ∧ mk σ r x 0 = true := by
    intro m
    induction m with
    | zero => intro y hy hm h; have h : y = x := h; rw [← h]; exact ⟨hy, hm⟩
    | succ m ih =>
      intro y hy hm h
      obtain ⟨j, hj, hbj, h2⟩ := h
      obtain ⟨a, ha, e⟩ := q3 y hy hm
      rcases hC a j hj (Or.inl (by omega)) with z | ⟨z, _⟩
      · rw [e, hbj] at z; cases z
      · rw [e] at z; exact ih _ (gdd_lt hT hy hj) z h2
  obtain ⟨hx, hm⟩ := hcl m _ (gdd_lt hT hst hk) h0 hp
  obtain ⟨a, ha, e⟩ := q3 x hx hm
  have := (q2 a ha).2.2.2.2.2
  rw [e, hg] at this
  cases this
theorem s67_done (σ : hbM) (x1 x2 x3 x4 x5 : Int32) (v6 : Value) (h : ¬ σ 49 6 = hbNO) : hb_run hbSH 67 (18, [.ref 49, .int x1, .int x2, .int x3, .int x4, .int x5, v6], [], σ) = some (some (.int x3), σ) := by
  rw [e67_18]
  by_cases z : (4 : Int32) < x5
  · rw [if_pos z]
  · rw [if_neg z, if_pos h]
theorem s67_loop (hT : ∀ s, s < 1024 → P.2.2.2.2.1 s < 1024) (hst : st < 1024) (x2 : Int32) {i s : Nat} : ∀ (g j : Nat) (σ : hbM) (n : Nat) (row d f : Nat → Nat) (v6 : Value), j + g = 5 → bQ P bd gd r st n row d f σ → i < n → row i = s → (∀ b, b < n → bky d f (row b) ≤ kcA d f row i j) → bCl P bd r i j row d f σ →
    ∃ σ' n', hb_run hbSH 67 (18, [.ref 49, .int (nI s), .int x2, .int (nI n), .int (nI (d s + 1)), .int (nI j), v6], [], σ) = some (some (.int (nI n')), σ') ∧ cW σ σ' ∧ rI σ' r ∧
      ((∃ D K, bS P bd gd st (some (D, K)) ∧ σ' 49 6 = nI D ∧ σ' 49 7 = nI K ∧ D < 2000) ∨ ∃ row' d' f', bQ P bd gd r st n' row' d' f' σ' ∧ n ≤ n' ∧ (∀ k, k < n → row' k = row k ∧ d' (row k) = d (row k) ∧ f' (row k) = f (row k)) ∧ (∀ b, b < n' → bky d' f' (row' b) ≤ kcA d' f' row' i 5) ∧ bCl P bd r (i + 1) 0 row' d' f' σ') := by
  intro g
  induction g with
  | zero =>
    intro j σ n row d f v6 hj hQ hi hrs hsp hC
    obtain rfl : j = 5 := by omega
    refine ⟨σ, n, by rw [e67_18, if_pos (by decide)], cW.rf σ, hQ.1.2.2.1, Or.inr ⟨row, d, f, hQ, Nat.le_refl _, fun _ _ => ⟨rfl, rfl, rfl⟩, hsp, fun a j hj h => ?_⟩⟩
    rcases h with h | ⟨_, h⟩
    · by_cases z : a < i
      · exact hC a j hj (Or.inl z)
      · exact hC a j hj (Or.inr ⟨by omega, hj⟩)
    · omega
  | succ g ih =>
    intro j σ n row d f v6 hj hQ hi hrs hsp hC
    obtain ⟨⟨g1, g2, g3, g4, g5⟩, q2, q3, q4, ⟨q5, q6, q7, q8⟩, q9, q10, q11, q12⟩ := id hQ
    have hn : n ≤ 1024 := by rw [q4]; exact cnt_le _ _
    obtain ⟨a1, a2, a3, a4, a5, a6⟩ := q2 i hi
    rw [hrs] at a1 a2 a3 a4 a5 a6
    have h68 := s68 g1 a2 (k := j) (by omega)
    rw [g2] at h68
    have hy := gdd_lt hT a2 (k := j) (by omega)
    have hkm : kcA d f row i j ≤ kcA d f row i (j + 1) := by unfold kcA; split <;> omega
    have hsp1 : ∀ b, b < n → bky d f (row b) ≤ kcA d f row i (j + 1) := fun b hb => Nat.le_trans (hsp b hb) hkm
    generalize hyy : gdd P s j = y at h68 hy
    rw [e67_18, if_neg (by rw [q_4, q_lt (by omega) (by omega)]; omega), if_neg (fun z => z q11), h68, hb_ci_s, q_inT (by omega) hy, hb_g_t, hb_g_nil, q_cl (by omega), g4 y hy]
    cases hb : bd y with
    | true =>
      rw [hbb_t, if_pos (by decide), nI_1]
      refine ih (j + 1) σ n row d f _ (by omega) hQ hi hrs hsp1 (fun a k hk h => ?_)
      rcases h with h | ⟨h1, h2⟩
      · exact hC a k hk (Or.inl h)
      · by_cases z : k = j
        · rw [h1, z, hrs, hyy]; exact Or.inl hb
        · exact hC a k hk (Or.inr ⟨h1, by omega⟩)
    | false =>
      have h28 := s28 g3 (p := y) (l := 0) (by omega) (by omega)
      rw [show nI 0 = (0 : Int32) from rfl] at h28
      rw [hbb_f, if_neg (fun z => z rfl), h28, hb_ci_s]
      cases hm : mk σ r y 0 with
      | true =>
        rw [Bool.not_true, hbb_f, if_pos rfl, nI_1]
        have hmk : ∀ q, mk (eE σ r y 0) r q 0 = mk σ r q 0 := fun q => by
          rw [eE_mk g3 (by omega) (by omega) (by omega)]
          by_cases z : q = y
          · rw [z, hm]; rfl
          · rw [decide_eq_false z]; simp
        have ho : ∀ c, c ≠ 48 → eE σ r y 0 c = σ c := fun c hc => eE_o _ _ _ _ hc
        have hcS := eE_cS σ r y 0
        have hQ1 : bQ P bd gd r st n row d f (eE σ r y 0) := by
          refine ⟨⟨cS_gI hcS g1, (cS_gP hcS).trans g2, eE_rI g3 (by omega), fun s hs => by rw [ho 11 (by omega)]; exact g4 s hs, fun s hs => by rw [ho 12 (by omega)]; exact g5 s hs⟩, fun k hk => by rw [ho 45 (by omega), ho 46 (by omega), hmk]; exact q2 k hk, fun p hp h => q3 p hp (by rw [← hmk]; exact h), by rw [q4]; exact cnt_eq _ (fun p _ => (hmk p).symm), ⟨q5, q6, q7, q8⟩, fun k h1 h2 => by rw [ho 47 (by omega)]; exact q9 k h1 h2, q10, by rw [ho 49 (by omega)]; exact q11, by rw [ho 49 (by omega)]; exact q12⟩
        obtain ⟨σ', n', r1, r2, r3, r4⟩ := ih (j + 1) (eE σ r y 0) n row d f (.int (nI y)) (by omega) hQ1 hi hrs hsp1 (fun a k hk h => by
          rw [hmk]
          rcases h with h | ⟨h1, h2⟩
          · exact hC a k hk (Or.inl h)
          · by_cases z : k = j
            · rw [h1, z, hrs, hyy]
              obtain ⟨b, hb1, hb2⟩ := q3 y hy hm
              refine Or.inr ⟨hm, ?_⟩
              rw [← hb2]; exact hsp b hb1
            · exact hC a k hk (Or.inr ⟨h1, by omega⟩))
        exact ⟨σ', n', r1, (eE_cW σ r y 0).tr r2, r3, r4⟩
      | false =>
        have hcs := cnt_set (f := fun p => mk σ r p 0) hm 1024 hy
        have hle := cnt_le (fun x => mk σ r x 0 || decide (x = y)) 1024
        have hnl : n < 1024 := by omega
        have hds : d s ≤ 1024 := by omega
        -- the first deed of the child
        have hfk : ∃ fk, fk < 5 ∧ 5 * (d s + 1) + fk = kcA d f row i j ∧ bd (gdd P st fk) = false ∧ (∃ m, d s + 1 = m + 1 ∧ Pt P bd m (gdd P st fk) y) ∧ hb_run hbSH 67 (18, [.ref 49, .int (nI s), .int x2, .int (nI n), .int (nI (d s + 1)), .int (nI j), v6], [], σ) = hb_run hbSH 67 (18, [.ref 49, .int (nI s), .int x2, .int (nI n), .int (nI (d s + 1)), .int (nI j), v6], [], σ) ∧ (if (¬ nI (d s + 1) = (1 : Int32)) then hb_g [hb_in (nI s) 17408] (hb_run hbSH 67 (130, [.ref 49, .int (nI s), .int x2, .int (nI n + 1), .int (nI (d s + 1)), .int (nI j), .int (nI y)], [.int (eE σ r y 0 47 (nI s).toNatClampNeg), .int (nI y), .ref 47], hb_up (hb_up (eE σ r y 0) 45 n (nI y)) 46 y (nI (d s + 1)))) else hb_run hbSH 67 (130, [.ref 49, .int (nI s), .int x2, .int (nI n + 1), .int (nI (d s + 1)), .int (nI j), .int (nI y)], [.int (nI j), .int (nI y), .ref 47], hb_up (hb_up (eE σ r y 0) 45 n (nI y)) 46 y (nI (d s + 1)))) = hb_run hbSH 67 (130, [.ref 49, .int (nI s), .int x2, .int (nI (n + 1)), .int (nI (d s + 1)), .int (nI j), .int (nI y)], [.int (nI fk), .int (nI y), .ref 47], hb_up (hb_up (eE σ r y 0) 45 n (nI y)) 46 y (nI (d s + 1))) := by
          by_cases hi0 : i = 0
          · have hs0 : s = st := by rw [← hrs, hi0, q6]
            have hd0 : d s = 0 := by rw [hs0]; exact q7
            refine ⟨j, by omega, by unfold kcA; rw [if_pos hi0, hd0], by rw [← hs0, hyy]; exact hb, ⟨0, by omega, by rw [← hs0, hyy]; rfl⟩, rfl, ?_⟩
            rw [if_neg (fun z => z (by rw [hd0]; rfl)), nI_1]
          · obtain ⟨b1, b2, b3, b4, m, b5, b6⟩ := q9 i (by omega) hi
            rw [hrs] at b1 b2 b3 b4 b5 b6
            refine ⟨f s, b2, by unfold kcA bky; rw [if_neg hi0, hrs]; omega, b4, ⟨m + 1, by omega, ?_⟩, rfl, ?_⟩
            · rw [← hyy]; exact Pt_snoc (by omega) m _ s b6 (by rw [hyy]; exact hb)
            · rw [if_pos (fun z => by rw [q_1, q_eq (by omega) (by omega)] at z; omega), q_inT (by omega) (by omega), hb_g_t, hb_g_nil, q_cl (by omega), eE_o _ _ _ _ (by omega), b3, nI_1]
        obtain ⟨fk, k1, k2, k3, ⟨m, k4, k5⟩, _, k6⟩ := hfk
        rw [Bool.not_false, hbb_t, if_neg (by decide), if_neg (by rw [q_1024, q_le (by omega) (by omega)]; omega), q_inT (by omega) (by omega), q_inT (by omega) (by omega), hb_g_t, hb_g_t, hb_g_nil, q_cl (show n < 2147483648 by omega), k6, e67_130, q_inT (by omega) (by omega), q_inT (by omega) hy, hb_g_t, hb_g_t, hb_g_nil, q_cl (by omega), um_c _ _ _ (show (12 : Nat) ≠ 46 by omega), um_c _ _ _ (show (12 : Nat) ≠ 45 by omega), eE_o _ _ _ _ (show (12 : Nat) ≠ 48 by omega), g5 y hy]
        generalize hσ1 : hb_up (hb_up (hb_up (eE σ r y 0) 45 n (nI y)) 46 y (nI (d s + 1))) 47 y (nI fk) = σ1
        have hoth : ∀ c, c ≠ 45 → c ≠ 46 → c ≠ 47 → c ≠ 48 → σ1 c = σ c := fun c h1 h2 h3 h4 => by rw [← hσ1, um_c _ _ _ h3, um_c _ _ _ h2, um_c _ _ _ h1, eE_o _ _ _ _ h4]
        have hcW1 : cW σ σ1 := fun c hc => hoth c (by omega) (by omega) (by omega) (by omega)
        have hrI1 : rI σ1 r := by rw [← hσ1]; exact (((eE_rI g3 (by omega)).up _ _ (by omega)).up _ _ (by omega)).up _ _ (by omega)
        have hmk1 : ∀ q, mk σ1 r q 0 = (mk σ r q 0 || decide (q = y)) := fun q => by
          rw [← hσ1, mk.up _ _ _ _ _ _ (by omega), mk.up _ _ _ _ _ _ (by omega), mk.up _ _ _ _ _ _ (by omega), eE_mk g3 (by omega) (by omega) (by omega)]
          simp
        have h45 : ∀ k, σ1 45 k = if k = n then nI y else σ 45 k := fun k => by rw [← hσ1, um_c _ _ _ (by omega), um_c _ _ _ (by omega), um_at, eE_o _ _ _ _ (by omega)]
        have h46 : ∀ k, σ1 46 k = if k = y then nI (d s + 1) else σ 46 k := fun k => by rw [← hσ1, um_c _ _ _ (by omega), um_at, um_c _ _ _ (by omega), eE_o _ _ _ _ (by omega)]
        have h47 : ∀ k, σ1 47 k = if k = y then nI fk else σ 47 k := fun k => by rw [← hσ1, um_at, um_c _ _ _ (by omega), um_c _ _ _ (by omega), eE_o _ _ _ _ (by omega)]
        cases hg : gd y with
        | true =>
          rw [hbb_t, if_neg (by decide), e67_152, q_inT (by omega) hy, hb_g_t, hb_g_nil, q_cl (by omega), hoth 12 (by omega) (by omega) (by omega) (by omega), g5 y hy, hg, hbb_t, if_neg (by decide), q_inT (by omega) (by omega), hb_g_t, hb_g_nil, h47, if_pos rfl, s67_done _ _ _ _ _ _ _ (by rw [um_i _ _ _ (by omega), um_s]; exact nno (by omega))]
          refine ⟨_, n + 1, rfl, (hcW1.up _ _ (by omega)).up _ _ (by omega), (hrI1.up _ _ (by omega)).up _ _ (by omega), Or.inl ⟨d s + 1, fk, ⟨k1, ⟨y, m, k4, hg, k3, k5⟩, fun m' k' x' h1 h2 h3 h4 => ?_⟩, ?_, um_s _ _ _ _, by omega⟩⟩
          · rw [k2]
            exact b_min hT hst hQ hi (by omega) hC m' k' x' h1 h2 h3 h4
          · rw [um_i _ _ _ (by omega), um_s]
        | false =>
          rw [hbb_f, if_pos rfl, e67_152, q_inT (by omega) hy, hb_g_t, hb_g_nil, q_cl (by omega), hoth 12 (by omega) (by omega) (by omega) (by omega), g5 y hy, hg, hbb_f, if_pos rfl, nI_1]
          generalize hσ2 : hb_up (hb_up σ1 49 6 (-1000000)) 49 7 (-1000000) = σ2
          have ho2 : ∀ c, c ≠ 49 → σ2 c = σ1 c := fun c hc => by rw [← hσ2, um_c _ _ _ hc, um_c _ _ _ hc]
          have hcW2 : cW σ σ2 := by rw [← hσ2]; exact (hcW1.up _ _ (by omega)).up _ _ (by omega)
          have hmk2 : ∀ q, mk σ2 r q 0 = (mk σ r q 0 || decide (q = y)) := fun q => by rw [← hmk1]; unfold mk tn; rw [ho2 48 (by omega)]
          have hny : ∀ k, k < n → row k ≠ y := fun k hk z => by
            have := (q2 k hk).2.2.1
            rw [z, hm] at this; cases this
          obtain ⟨row2, hrow, hrown⟩ : ∃ row2 : Nat → Nat, (∀ k, k < n → row2 k = row k) ∧ row2 n = y := ⟨fun k => if k = n then y else row k, fun k hk => if_neg (by omega), if_pos rfl⟩
          obtain ⟨d2, hd2, hd2y⟩ : ∃ d2 : Nat → Nat, (∀ x, x ≠ y → d2 x = d x) ∧ d2 y = d s + 1 := ⟨fun x => if x = y then d s + 1 else d x, fun x hx => if_neg hx, if_pos rfl⟩
          obtain ⟨f2, hf2, hf2y⟩ : ∃ f2 : Nat → Nat, (∀ x, x ≠ y → f2 x = f x) ∧ f2 y = fk := ⟨fun x => if x = y then fk else f x, fun x hx => if_neg hx, if_pos rfl⟩
          have hsty : st ≠ y := by rw [← q6]; exact hny 0 q5
          have hbk : ∀ x, x ≠ y → bky d2 f2 x = bky d f x := fun x hx => by
            unfold bky
            rw [hd2 x hx, hf2 x hx]
          have hbky : bky d2 f2 y = kcA d f row i j := by
            unfold bky
            rw [hd2y, hf2y]; exact k2
          have hkc : ∀ a j, a < n → kcA d2 f2 row2 a j = kcA d f row a j := fun a j ha => by
            unfold kcA
            rw [hrow a ha, hbk _ (hny a ha)]
          have hds' : d2 s = d s := hd2 s (by rw [← hrs]; exact hny i hi)
          have hQ2 : bQ P bd gd r st (n + 1) row2 d2 f2 σ2 := by
            refine ⟨⟨cS_gI hcW2.cS g1, (cS_gP hcW2.cS).trans g2, by rw [← hσ2]; exact (hrI1.up _ _ (by omega)).up _ _ (by omega), fun s hs => by rw [hcW2 11 (by omega)]; exact g4 s hs, fun s hs => by rw [hcW2 12 (by omega)]; exact g5 s hs⟩, fun k hk => ?_, fun p hp h => ?_, ?_, ⟨by omega, by rw [hrow 0 q5]; exact q6, ?_, ?_⟩, fun k h1 h2 => ?_, fun a b hab hb2 => ?_, ?_, ?_⟩
            · rw [ho2 45 (by omega), ho2 46 (by omega), h45, h46]
              by_cases z : k = n
              · rw [z, hrown, if_pos rfl]
                refine ⟨rfl, hy, by rw [hmk2]; simp, by rw [hd2y]; omega, by rw [if_pos rfl, hd2y], hg⟩
              · obtain ⟨c1, c2, c3, c4, c5, c6⟩ := q2 k (by omega)
                rw [hrow k (by omega), if_neg z, if_neg (hny k (by omega))]
                have hne := hny k (by omega)
                exact ⟨c1, c2, by rw [hmk2, c3]; rfl, by rw [hd2 _ hne]; exact c4, by rw [hd2 _ hne]; exact c5, c6⟩
            · rw [hmk2] at h
              by_cases z : p = y
              · exact ⟨n, by omega, by rw [hrown, z]⟩
              · rw [decide_eq_false z, Bool.or_false] at h
                obtain ⟨k, hk, e⟩ := q3 p hp h
                exact ⟨k, by omega, by rw [hrow k hk]; exact e⟩
            · rw [q4, ← hcs]
              exact cnt_eq _ (fun q _ => (hmk2 q).symm)
            · rw [hd2 _ hsty]; exact q7
            · rw [hf2 _ hsty]; exact q8
            · rw [ho2 47 (by omega), h47]
              by_cases z : k = n
              · rw [z, hrown, if_pos rfl]
                rw [hf2y, hd2y]
                exact ⟨hsty.symm, k1, rfl, k3, m, k4, k5⟩
              · have hkn : k < n := by omega
                rw [hrow k hkn, if_neg (hny k hkn), hf2 _ (hny k hkn), hd2 _ (hny k hkn)]
                exact q9 k h1 hkn
            · by_cases z : b = n
              · rw [z, hrown, hbky]
                by_cases za : a = n
                · rw [za, hrown, hbky]; exact Nat.le_refl _
                · rw [hrow a (by omega), hbk _ (hny a (by omega))]; exact hsp a (by omega)
              · rw [hrow b (by omega), hbk _ (hny b (by omega)), hrow a (by omega), hbk _ (hny a (by omega))]
                exact q10 a b hab (by omega)
            · rw [← hσ2, um_i _ _ _ (by omega), um_s]
            · rw [← hσ2, um_s]
          obtain ⟨σ', n', r1, r2, r3, r4⟩ := ih (j + 1) σ2 (n + 1) row2 d2 f2 (.int (nI y)) (by omega) hQ2 (by omega) (by rw [hrow i hi]; exact hrs) (fun b hb2 => by
            rw [hkc i (j + 1) hi]
            by_cases z : b = n
            · rw [z, hrown, hbky]; exact hkm
            · rw [hrow b (by omega), hbk _ (hny b (by omega))]; exact hsp1 b (by omega)) (fun a k hk h => by
            have han : a < n := by rcases h with h | h <;> omega
            rw [hrow a han, hkc a k han, hmk2]
            by_cases z : gdd P (row a) k = y
            · rw [z]
              refine Or.inr ⟨by simp, ?_⟩
              rw [hbky]
              rcases h with h | ⟨h1, h2⟩
              · rcases hC a k hk (Or.inl h) with e | ⟨e, _⟩
                · rw [z, hb] at e; cases e
                · rw [z, hm] at e; cases e
              · by_cases y' : k = j
                · rw [h1, y']; exact Nat.le_refl _
                · rcases hC a k hk (Or.inr ⟨h1, by omega⟩) with e | ⟨e, _⟩
                  · rw [z, hb] at e; cases e
                  · rw [z, hm] at e; cases e
            · rw [hbk _ z, decide_eq_false z, Bool.or_false]
              rcases h with h | ⟨h1, h2⟩
              · exact hC a k hk (Or.inl h)
              · by_cases y' : k = j
                · exact absurd (by rw [h1, y', hrs]; exact hyy) z
                · exact hC a k hk (Or.inr ⟨h1, by omega⟩))
          rw [hds'] at r1
          refine ⟨σ', n', r1, hcW2.tr r2, r3, ?_⟩
          rcases r4 with r4 | ⟨row', d', f', p1, p2, p3, p4, p5⟩
          · exact Or.inl r4
          · refine Or.inr ⟨row', d', f', p1, by omega, fun k hk => ?_, p4, p5⟩
            obtain ⟨e1, e2, e3⟩ := p3 k (by omega)
            rw [hrow k hk] at e1 e2 e3
            exact ⟨e1, by rw [e2]; exact hd2 _ (hny k hk), by rw [e3]; exact hf2 _ (hny k hk)⟩
end
