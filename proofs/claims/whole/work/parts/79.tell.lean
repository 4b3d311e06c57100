/-! tellStates -/
section
variable (rest : List hbS)
theorem s13_in {c : Nat} (hc : c = 1 ∨ c = 4) {σ : hbM} {L : hbL} (hok : wLok L) (hL : cL σ L c) {st i : Nat} (hs : st < 1024) (hi : i < L.1) (x2 : Int32) : ∀ (f j : Nat), j + f = L.2.1 i → wAll L.2.2 st (3 * i) j = true →
    ∃ x5 : Int32, hb_run (hbSH0 ++ rest) 13 (21, [.ref c, .int (nI st), .int x2, .int (nI i), .int (nI (3 * i)), .int (nI (3 * i + j))], [], σ) = hb_run (hbSH0 ++ rest) 13 (75, [.ref c, .int (nI st), .int x2, .int (nI i), .int (nI (3 * i)), .int x5], [.int (hbb (wAll L.2.2 st (3 * i) (L.2.1 i))), .int x2], σ) := by
  obtain ⟨o1, o2⟩ := hok
  obtain ⟨o3, o4⟩ := o2 i hi
  obtain ⟨l1, l2⟩ := hL.2 i hi
  intro f
  induction f with
  | zero =>
    intro j hj hw
    have e : j = L.2.1 i := by omega
    rw [re13_21 hc, q_inT (by omega) (by omega), hb_g_t, hb_g_nil, q_cl (by omega), l1, q_add, if_pos (by rw [q_le (by omega) (by omega)]; omega), re13_55 hc, q_inT (by omega) (by omega), hb_g_t, hb_g_nil, q_cl (by omega), l1, q_add, if_neg (fun z => z (by rw [e]))]
    rw [e] at hw
    rw [hw]
    exact ⟨_, rfl⟩
  | succ f ih =>
    intro j hj hw
    have hjs : j < L.2.1 i := by omega
    have hcj := o4 j hjs
    rw [re13_21 hc, q_inT (by omega) (by omega), hb_g_t, hb_g_nil, q_cl (show i < 2147483648 by omega), l1, q_add, if_neg (by rw [q_le (by omega) (by omega)]; omega), q_inT (by omega) (by omega), hb_g_t, hb_g_nil, q_cl (by omega), l2 j hjs, s70 rest σ hcj hs, hb_ci_s]
    cases hg : gHold (L.2.2 (3 * i + j)) st with
    | true =>
      rw [hbb_t, if_neg (by decide), nI_1]
      exact ih (j + 1) (by omega) (by simp only [wAll, hw, hg]; rfl)
    | false =>
      have hf : wAll L.2.2 st (3 * i) (L.2.1 i) = false := by
        have key : ∀ n, j < n → wAll L.2.2 st (3 * i) n = false := by
          intro n
          induction n with
          | zero => intro h; omega
          | succ n ih2 =>
            intro h
            simp only [wAll]
            by_cases z : n = j
            · rw [z, hg, Bool.and_false]
            · rw [ih2 (by omega), Bool.false_and]
        exact key _ hjs
      rw [hbb_f, if_pos rfl, re13_55 hc, q_inT (by omega) (by omega), hb_g_t, hb_g_nil, q_cl (by omega), l1, q_add, if_pos (fun z => by rw [q_eq (by omega) (by omega)] at z; omega), hf]
      exact ⟨_, rfl⟩
/-- holding -/
theorem s13 {c : Nat} (hc : c = 1 ∨ c = 4) {σ : hbM} {L : hbL} (hok : wLok L) (hL : cL σ L c) {st : Nat} (hs : st < 1024) : hb_ev (hbSH0 ++ rest) 13 [.ref c, .int (nI st)] σ = some (some (.int (nI (cnt (fun i => wAll L.2.2 st (3 * i) (L.2.1 i)) L.1))), σ) := by
  have key : ∀ (f i : Nat) (v4 v5 : Value), i + f = L.1 → hb_run (hbSH0 ++ rest) 13 (4, [.ref c, .int (nI st), .int (nI (cnt (fun i => wAll L.2.2 st (3 * i) (L.2.1 i)) i)), .int (nI i), v4, v5], [], σ) = some (some (.int (nI (cnt (fun i => wAll L.2.2 st (3 * i) (L.2.1 i)) L.1))), σ) := by
    have h4 := hok.1
    intro f
    induction f with
    | zero =>
      intro i v4 v5 hi
      have hi' : i = L.1 := by omega
      rw [re13_4 hc, hL.1, if_pos (by rw [q_le (by omega) (by omega)]; omega), hi']
    | succ f ih =>
      intro i v4 v5 hi
      obtain ⟨x5, e⟩ := s13_in rest hc hok hL hs (show i < L.1 by omega) (nI (cnt (fun i => wAll L.2.2 st (3 * i) (L.2.1 i)) i)) (L.2.1 i) 0 (by omega) rfl
      rw [Nat.add_zero] at e
      rw [re13_4 hc, hL.1, if_neg (by rw [q_le (by omega) (by omega)]; omega), q_3, q_mul, Nat.mul_comm i 3, e, re13_75 hc, s111 rest, hb_ci_s, hbb_n, q_add, nI_1]
      have := ih (i + 1) (.int (nI (3 * i))) (.int x5) (by omega)
      rw [cnt_s] at this
      exact this
  rw [rv13 hc, re13_0 hc]
  exact key L.1 0 .null .null (by omega)
theorem wAny_c (L : hbL) (st : Nat) : ∀ n, wAny L st n = decide (0 < cnt (fun i => wAll L.2.2 st (3 * i) (L.2.1 i)) n) := by
  intro n
  induction n with
  | zero => rfl
  | succ n ih =>
    have e : cnt (fun i => wAll L.2.2 st (3 * i) (L.2.1 i)) (n + 1) = cnt (fun i => wAll L.2.2 st (3 * i) (L.2.1 i)) n + (if wAll L.2.2 st (3 * n) (L.2.1 n) = true then 1 else 0) := rfl
    simp only [wAny]
    rw [ih]
    cases hw : wAll L.2.2 st (3 * n) (L.2.1 n) with
    | true =>
      rw [hw, if_pos rfl] at e
      rw [Bool.or_true, decide_eq_true (by omega)]
    | false =>
      rw [hw, if_neg (by decide)] at e
      rw [Bool.or_false]
      exact decide_eq_decide.mpr (by omega)
theorem wEvery_c (L : hbL) (st : Nat) : ∀ n, wEvery L st n = decide (cnt (fun i => wAll L.2.2 st (3 * i) (L.2.1 i)) n = n) := by
  intro n
  induction n with
  | zero => rfl
  | succ n ih =>
    have := cnt_le (fun i => wAll L.2.2 st (3 * i) (L.2.1 i)) n
    have e : cnt (fun i => wAll L.2.2 st (3 * i) (L.2.1 i)) (n + 1) = cnt (fun i => wAll L.2.2 st (3 * i) (L.2.1 i)) n + (if wAll L.2.2 st (3 * n) (L.2.1 n) = true then 1 else 0) := rfl
    simp only [wEvery]
    rw [ih]
    cases hw : wAll L.2.2 st (3 * n) (L.2.1 n) with
    | true =>
      rw [hw, if_pos rfl] at e
      rw [Bool.and_true]
      exact decide_eq_decide.mpr (by omega)
    | false =>
      rw [hw, if_neg (by decide)] at e
      rw [Bool.and_false]
      exact (decide_eq_false (by omega)).symm
/-- riseOf -/
theorem s76 {σ : hbM} {F : hbF} (hok : wFok F) (hF : cF σ F) {op ht : Nat} (ho : op < 16) (hh : ht < 2) : hb_ev (hbSH0 ++ rest) 76 [.ref 0, .int (nI op), .int (nI ht)] σ = some (some (.int (iI (wRise F op ht F.1))), σ) := by
  have h8 := hok.1
  have key : ∀ (f i : Nat), i + f = F.1 → hb_run (hbSH0 ++ rest) 76 (5, [.ref 0, .int (nI op), .int (nI ht), .int (iI (wRise F op ht i)), .int (nI i)], [], σ) = some (some (.int (iI (wRise F op ht F.1))), σ) := by
    intro f
    induction f with
    | zero =>
      intro i hi
      have hi' : i = F.1 := by omega
      rw [e76_5, hF.1, if_pos (by rw [q_le (by omega) (by omega)]; omega), hi']
    | succ f ih =>
      intro i hi
      obtain ⟨f1, f2, f3⟩ := hF.2 i (by omega)
      obtain ⟨o1, o2, o3⟩ := hok.2 i (by omega)
      have hdl : op / 2 ^ F.2.1 i < 16 := Nat.lt_of_le_of_lt (Nat.div_le_self _ _) ho
      have ih1 := ih (i + 1) (by omega)
      rw [show wRise F op ht (i + 1) = wRise F op ht i + (if F.2.2.1 i = ht ∧ op / 2 ^ F.2.1 i % 2 = 1 then F.2.2.2 i else 0) from rfl] at ih1
      have c1 : (nI (F.2.2.1 i) = nI ht) = (F.2.2.1 i = ht) := q_eq (by omega) (by omega)
      have c2 : ((nI op >>> (nI (F.2.1 i) &&& 31)) &&& (1 : Int32) = 1) = (op / 2 ^ F.2.1 i % 2 = 1) := by
        rw [q_shr (by omega) (by omega), q_1, q_and, q_a1, q_eq (by omega) (by omega)]
      rw [e76_5, hF.1, if_neg (by rw [q_le (by omega) (by omega)]; omega), q_inT (by omega) (by omega), hb_g_t, hb_g_nil, q_cl (by omega), f1, f2, f3]
      simp only [c1, c2]
      by_cases z1 : F.2.2.1 i = ht
      · rw [if_neg (fun y => y z1), hb_g_t, hb_g_nil]
        by_cases z2 : op / 2 ^ F.2.1 i % 2 = 1
        · rw [if_neg (fun y => y z2), hb_g_t, hb_g_nil, i_add, nI_1]
          rw [if_pos ⟨z1, z2⟩] at ih1
          exact ih1
        · rw [if_pos z2, nI_1]
          rw [if_neg (fun y => z2 y.2), Int.add_zero] at ih1
          exact ih1
      · rw [if_pos z1, nI_1]
        rw [if_neg (fun y => z1 y.1), Int.add_zero] at ih1
        exact ih1
  rw [v76, e76_0]
  exact key F.1 0 (by omega)
/-- within -/
theorem s77 (σ : hbM) {z : Int} (h1 : -100 ≤ z) (h2 : z ≤ 100) : hb_ev (hbSH0 ++ rest) 77 [.int (iI z)] σ = some (some (.int (nI (cl7 z))), σ) := by
  rw [v77, e77_0, v190, e190_0]
  have c1 : (iI z < (7 : Int32)) = (z < 7) := i_lt (b := 7) (by omega) (by omega) (by omega) (by omega)
  simp only [c1]
  unfold cl7
  by_cases a : z < 7
  · rw [if_pos a, hb_ci_s, v189, e189_0]
    have c2 : ((0 : Int32) < iI z) = (0 < z) := i_lt (a := 0) (by omega) (by omega) (by omega) (by omega)
    simp only [c2]
    by_cases b : 0 < z
    · rw [if_pos b, hb_ci_s, if_neg (by omega), if_neg (by omega)]
      refine q_rs _ ?_
      rw [← i_n]
      congr 1
      omega
    · rw [if_neg b, hb_ci_s]
      by_cases c : z < 0
      · rw [if_pos c]; rfl
      · rw [if_neg c, if_neg (by omega), show z = 0 by omega]; rfl
  · rw [if_neg a, hb_ci_s, v189, e189_0, if_pos (by decide), hb_ci_s, if_neg (by omega)]
    by_cases c : 7 < z
    · rw [if_pos c]; rfl
    · rw [if_neg c, show z = 7 by omega]; rfl
/-- the states of all heights with these valves, from the lv-th on -/
theorem s75_in {F : hbF} {B G : hbL} (hF : wFok F) (hB : wLok B) (hG : wLok G) {op : Nat} (ho : op < 16) : ∀ (f lv : Nat) (σ : hbM) (v5 v6 v7 : Value), lv + f = 64 → cF σ F → cL σ B 1 → cL σ G 4 →
    ∃ σ' w4 w5 w6 w7, hb_run (hbSH0 ++ rest) 75 (25, [.ref 0, .int (nI op), .int (iI (wRise F op 0 F.1)), .int (iI (wRise F op 1 F.1)), .int (nI lv), v5, v6, v7], [], σ) = hb_run (hbSH0 ++ rest) 75 (2, [.ref 0, .int (nI (op + 1)), .int (iI (wRise F op 0 F.1)), .int (iI (wRise F op 1 F.1)), w4, w5, w6, w7], [], σ') ∧ (∀ c, c ≠ 10 → c ≠ 11 → c ≠ 12 → σ' c = σ c) ∧
      (∀ x, x < 1024 → x % 16 = op → lv ≤ x / 16 → σ' 10 x = nI (wTick F x) ∧ σ' 11 x = hbb (wAny B x B.1) ∧ σ' 12 x = hbb (wGood B G x)) ∧ ∀ x, ¬ (x < 1024 ∧ x % 16 = op ∧ lv ≤ x / 16) → σ' 10 x = σ 10 x ∧ σ' 11 x = σ 11 x ∧ σ' 12 x = σ 12 x := by
  have hr0 := wRise_b hF op 0 F.1 (Nat.le_refl _)
  have hr1 := wRise_b hF op 1 F.1 (Nat.le_refl _)
  have h8 := hF.1
  intro f
  induction f with
  | zero =>
    intro lv σ v5 v6 v7 hl cf cb cg
    obtain rfl : lv = 64 := by omega
    rw [e75_25, if_pos (by decide), nI_1]
    exact ⟨σ, _, _, _, _, rfl, fun _ _ _ _ => rfl, fun x hx h1 h2 => by omega, fun _ _ => ⟨rfl, rfl, rfl⟩⟩
  | succ f ih =>
    intro lv σ v5 v6 v7 hl cf cb cg
    have e1 : ((nI lv <<< (4 : Int32)) ||| nI op) = nI (16 * lv + op) := by
      rw [q_shl4 (by omega), q_or, Nat.mul_comm lv 16, ← Nat.two_pow_add_eq_or_of_lt (i := 4) (by omega : op < 2 ^ 4)]
    have e2 : (nI lv &&& (7 : Int32)) + iI (wRise F op 0 F.1) = iI (((lv % 8 : Nat) : Int) + wRise F op 0 F.1) := by rw [q_7, q_and, q_a7, ← i_n, i_add]
    have e3 : (nI lv >>> (3 : Int32)) + iI (wRise F op 1 F.1) = iI (((lv / 8 : Nat) : Int) + wRise F op 1 F.1) := by rw [q_shr3 (by omega), ← i_n, i_add]
    have hs : 16 * lv + op < 1024 := by omega
    have c7a := cl7_lt (((lv % 8 : Nat) : Int) + wRise F op 0 F.1)
    have c7b := cl7_lt (((lv / 8 : Nat) : Int) + wRise F op 1 F.1)
    generalize hA : cl7 (((lv % 8 : Nat) : Int) + wRise F op 0 F.1) = A at c7a
    generalize hBB : cl7 (((lv / 8 : Nat) : Int) + wRise F op 1 F.1) = BB at c7b
    have et : wTick F (16 * lv + op) = op + 16 * A + 128 * BB := by
      unfold wTick
      rw [show (16 * lv + op) % 16 = op by omega, show (16 * lv + op) / 16 % 8 = lv % 8 by omega, show (16 * lv + op) / 128 % 8 = lv / 8 by omega, hA, hBB]
    have e4 : ((nI op ||| (nI A <<< (4 : Int32))) ||| (nI BB <<< (7 : Int32))) = nI (wTick F (16 * lv + op)) := by
      rw [q_shl4 (by omega), q_shl7 (by omega), q_or, q_or, et, Nat.or_comm op, Nat.mul_comm A 16, ← Nat.two_pow_add_eq_or_of_lt (i := 4) (by omega : op < 2 ^ 4), Nat.or_comm, Nat.mul_comm BB 128, ← Nat.two_pow_add_eq_or_of_lt (i := 7) (by omega : 2 ^ 4 * A + op < 2 ^ 7)]
      congr 1
      omega
    have s1 := s77 rest σ (z := ((lv % 8 : Nat) : Int) + wRise F op 0 F.1) (by omega) (by omega)
    have s2 := s77 rest σ (z := ((lv / 8 : Nat) : Int) + wRise F op 1 F.1) (by omega) (by omega)
    rw [hA] at s1
    rw [hBB] at s2
    rw [e75_25, if_neg (by rw [show (64 : Int32) = nI 64 from rfl, q_le (by omega) (by omega)]; omega), e2, s1, hb_ci_s, e3, s2, hb_ci_s, e1, q_inT (by omega) hs, hb_g_t, hb_g_nil, q_cl (by omega), e4]
    generalize hσ1 : hb_up σ 10 (16 * lv + op) (nI (wTick F (16 * lv + op))) = σ1
    have o1 : ∀ c, c ≠ 10 → σ1 c = σ c := fun c hc => by rw [← hσ1, um_c _ _ _ hc]
    have cb1 : cL σ1 B 1 := by unfold cL; rw [o1 1 (by omega), o1 (1 + 2) (by omega), o1 (1 + 1) (by omega)]; exact cb
    rw [s13 rest (Or.inl rfl) hB cb1 hs, hb_ci_s]
    -- what stands behind the state's turn
    have fin : ∀ (σ2 : hbM), (∀ c, c ≠ 10 → c ≠ 11 → c ≠ 12 → σ2 c = σ c) → (∀ x, σ2 10 x = if x = 16 * lv + op then nI (wTick F x) else σ 10 x) → (∀ x, σ2 11 x = if x = 16 * lv + op then hbb (wAny B x B.1) else σ 11 x) → (∀ x, σ2 12 x = if x = 16 * lv + op then hbb (wGood B G x) else σ 12 x) → ∀ u5 u6 u7 : Value,
        ∃ σ' w4 w5 w6 w7, hb_run (hbSH0 ++ rest) 75 (25, [.ref 0, .int (nI op), .int (iI (wRise F op 0 F.1)), .int (iI (wRise F op 1 F.1)), .int (nI (lv + 1)), u5, u6, u7], [], σ2) = hb_run (hbSH0 ++ rest) 75 (2, [.ref 0, .int (nI (op + 1)), .int (iI (wRise F op 0 F.1)), .int (iI (wRise F op 1 F.1)), w4, w5, w6, w7], [], σ') ∧ (∀ c, c ≠ 10 → c ≠ 11 → c ≠ 12 → σ' c = σ c) ∧
          (∀ x, x < 1024 → x % 16 = op → lv ≤ x / 16 → σ' 10 x = nI (wTick F x) ∧ σ' 11 x = hbb (wAny B x B.1) ∧ σ' 12 x = hbb (wGood B G x)) ∧ ∀ x, ¬ (x < 1024 ∧ x % 16 = op ∧ lv ≤ x / 16) → σ' 10 x = σ 10 x ∧ σ' 11 x = σ 11 x ∧ σ' 12 x = σ 12 x := by
      intro σ2 h1 h2 h3 h4 u5 u6 u7
      obtain ⟨σ', w4, w5, w6, w7, r1, r2, r3, r4⟩ := ih (lv + 1) σ2 u5 u6 u7 (by omega) (by unfold cF; rw [h1 0 (by omega) (by omega) (by omega), h1 7 (by omega) (by omega) (by omega), h1 8 (by omega) (by omega) (by omega), h1 9 (by omega) (by omega) (by omega)]; exact cf) (by unfold cL; rw [h1 1 (by omega) (by omega) (by omega), h1 (1 + 2) (by omega) (by omega) (by omega), h1 (1 + 1) (by omega) (by omega) (by omega)]; exact cb) (by unfold cL; rw [h1 4 (by omega) (by omega) (by omega), h1 (4 + 2) (by omega) (by omega) (by omega), h1 (4 + 1) (by omega) (by omega) (by omega)]; exact cg)
      refine ⟨σ', w4, w5, w6, w7, r1, fun c a b d => (r2 c a b d).trans (h1 c a b d), fun x hx hm hl => ?_, fun x hn => ?_⟩
      · by_cases z : x = 16 * lv + op
        · obtain ⟨a1, a2, a3⟩ := r4 x (by omega)
          rw [a1, a2, a3, h2, h3, h4, if_pos z, if_pos z, if_pos z]
          exact ⟨rfl, rfl, rfl⟩
        · exact r3 x hx hm (by omega)
      · obtain ⟨a1, a2, a3⟩ := r4 x (fun z => hn ⟨z.1, z.2.1, by omega⟩)
        have z : x ≠ 16 * lv + op := fun z => hn ⟨by omega, by omega, by omega⟩
        rw [a1, a2, a3, h2, h3, h4, if_neg z, if_neg z, if_neg z]
        exact ⟨rfl, rfl, rfl⟩
    have hany := wAny_c B (16 * lv + op) B.1
    have hcl := cnt_le (fun i => wAll B.2.2 (16 * lv + op) (3 * i) (B.2.1 i)) B.1
    have hb4 := hB.1
    have hgood : wGood B G (16 * lv + op) = (!wAny B (16 * lv + op) B.1 && wEvery G (16 * lv + op) G.1) := rfl
    cases hb : wAny B (16 * lv + op) B.1 with
    | true =>
      rw [hb] at hany
      have hpos := of_decide_eq_true hany.symm
      rw [if_neg (by rw [q_0, q_le (by omega) (by omega)]; omega), e75_105, q_inT (by omega) hs, show hb_01 1 = true from rfl, hb_g_t, hb_g_t, hb_g_t, hb_g_nil, q_cl (by omega), um_s, if_pos (by decide), show hb_01 0 = true from rfl, hb_g_t, hb_g_t, hb_g_nil, nI_1]
      refine fin _ (fun c a b d => by rw [um_c _ _ _ d, um_c _ _ _ b, o1 c a]) (fun x => by rw [um_c _ _ _ (by omega), um_c _ _ _ (by omega), ← hσ1, um_at]; by_cases z : x = 16 * lv + op; rw [if_pos z, if_pos z, z]; rw [if_neg z, if_neg z]) (fun x => ?_) (fun x => ?_) _ _ _
      · rw [um_c _ _ _ (by omega), um_at, o1 11 (by omega)]
        by_cases z : x = 16 * lv + op
        · rw [if_pos z, if_pos z, z, hb]; rfl
        · rw [if_neg z, if_neg z]
      · rw [um_at, um_c _ _ _ (by omega), o1 12 (by omega)]
        by_cases z : x = 16 * lv + op
        · rw [if_pos z, if_pos z, z, hgood, hb]; rfl
        · rw [if_neg z, if_neg z]
    | false =>
      rw [hb] at hany
      have hzero := of_decide_eq_false hany.symm
      rw [if_pos (by rw [q_0, q_le (by omega) (by omega)]; omega), e75_105, q_inT (by omega) hs, show hb_01 0 = true from rfl, hb_g_t, hb_g_t, hb_g_t, hb_g_nil, q_cl (by omega), um_s, if_neg (fun z => z rfl)]
      have cg2 : cL (hb_up σ1 11 (16 * lv + op) 0) G 4 := by unfold cL; rw [um_c _ _ _ (by omega), um_c _ _ _ (by omega), um_c _ _ _ (by omega), o1 4 (by omega), o1 (4 + 2) (by omega), o1 (4 + 1) (by omega)]; exact cg
      rw [s13 rest (Or.inr rfl) hG cg2 hs, hb_ci_s, cg2.1]
      have hev := wEvery_c G (16 * lv + op) G.1
      have hcl2 := cnt_le (fun i => wAll G.2.2 (16 * lv + op) (3 * i) (G.2.1 i)) G.1
      have hg4 := hG.1
      have fin2 : ∀ b : Bool, b = wEvery G (16 * lv + op) G.1 → ∀ u5 u6 u7 : Value, ∃ σ' w4 w5 w6 w7, hb_run (hbSH0 ++ rest) 75 (25, [.ref 0, .int (nI op), .int (iI (wRise F op 0 F.1)), .int (iI (wRise F op 1 F.1)), .int (nI (lv + 1)), u5, u6, u7], [], hb_up (hb_up σ1 11 (16 * lv + op) 0) 12 (16 * lv + op) (hbb b)) = hb_run (hbSH0 ++ rest) 75 (2, [.ref 0, .int (nI (op + 1)), .int (iI (wRise F op 0 F.1)), .int (iI (wRise F op 1 F.1)), w4, w5, w6, w7], [], σ') ∧ (∀ c, c ≠ 10 → c ≠ 11 → c ≠ 12 → σ' c = σ c) ∧
          (∀ x, x < 1024 → x % 16 = op → lv ≤ x / 16 → σ' 10 x = nI (wTick F x) ∧ σ' 11 x = hbb (wAny B x B.1) ∧ σ' 12 x = hbb (wGood B G x)) ∧ ∀ x, ¬ (x < 1024 ∧ x % 16 = op ∧ lv ≤ x / 16) → σ' 10 x = σ 10 x ∧ σ' 11 x = σ 11 x ∧ σ' 12 x = σ 12 x := by
        intro b hbe u5 u6 u7
        refine fin _ (fun c a b d => by rw [um_c _ _ _ d, um_c _ _ _ b, o1 c a]) (fun x => by rw [um_c _ _ _ (by omega), um_c _ _ _ (by omega), ← hσ1, um_at]; by_cases z : x = 16 * lv + op; rw [if_pos z, if_pos z, z]; rw [if_neg z, if_neg z]) (fun x => ?_) (fun x => ?_) _ _ _
        · rw [um_c _ _ _ (by omega), um_at, o1 11 (by omega)]
          by_cases z : x = 16 * lv + op
          · rw [if_pos z, if_pos z, z, hb]; rfl
          · rw [if_neg z, if_neg z]
        · rw [um_at, um_c _ _ _ (by omega), o1 12 (by omega)]
          by_cases z : x = 16 * lv + op
          · rw [if_pos z, if_pos z, z, hgood, hb, hbe]; rfl
          · rw [if_neg z, if_neg z]
      by_cases z : cnt (fun i => wAll G.2.2 (16 * lv + op) (3 * i) (G.2.1 i)) G.1 = G.1
      · rw [decide_eq_true z] at hev
        rw [if_neg (fun y => y (by rw [z])), show hb_01 1 = true from rfl, hb_g_t, hb_g_t, hb_g_nil, nI_1]
        exact fin2 true hev.symm _ _ _
      · rw [decide_eq_false z] at hev
        rw [if_pos (fun y => z (by rw [q_eq (by omega) (by omega)] at y; exact y)), hb_g_t, hb_g_t, hb_g_nil, nI_1]
        exact fin2 false hev.symm _ _ _
/-- tellStates -/
theorem s75 {F : hbF} {B G : hbL} {σ : hbM} (hF : wFok F) (hB : wLok B) (hG : wLok G) (cf : cF σ F) (cb : cL σ B 1) (cg : cL σ G 4) : ∃ σ', hb_ev (hbSH0 ++ rest) 75 [.ref 0] σ = some (none, σ') ∧ (∀ c, c ≠ 10 → c ≠ 11 → c ≠ 12 → σ' c = σ c) ∧ ∀ x, x < 1024 → σ' 10 x = nI (wTick F x) ∧ σ' 11 x = hbb (wAny B x B.1) ∧ σ' 12 x = hbb (wGood B G x) := by
  have key : ∀ (f op : Nat) (σ : hbM) (v2 v3 v4 v5 v6 v7 : Value), op + f = 16 → cF σ F → cL σ B 1 → cL σ G 4 → (∀ x, x < 1024 → x % 16 < op → σ 10 x = nI (wTick F x) ∧ σ 11 x = hbb (wAny B x B.1) ∧ σ 12 x = hbb (wGood B G x)) →
      ∃ σ', hb_run (hbSH0 ++ rest) 75 (2, [.ref 0, .int (nI op), v2, v3, v4, v5, v6, v7], [], σ) = some (none, σ') ∧ (∀ c, c ≠ 10 → c ≠ 11 → c ≠ 12 → σ' c = σ c) ∧ ∀ x, x < 1024 → σ' 10 x = nI (wTick F x) ∧ σ' 11 x = hbb (wAny B x B.1) ∧ σ' 12 x = hbb (wGood B G x) := by
    intro f
    induction f with
    | zero =>
      intro op σ v2 v3 v4 v5 v6 v7 ho cf cb cg hd
      obtain rfl : op = 16 := by omega
      exact ⟨σ, by rw [e75_2, if_pos (by decide)], fun _ _ _ _ => rfl, fun x hx => hd x hx (by omega)⟩
    | succ f ih =>
      intro op σ v2 v3 v4 v5 v6 v7 ho cf cb cg hd
      obtain ⟨σ1, w4, w5, w6, w7, a1, a2, a3, a4⟩ := s75_in rest hF hB hG (show op < 16 by omega) 64 0 σ v5 v6 v7 (by omega) cf cb cg
      obtain ⟨σ2, b1, b2, b3⟩ := ih (op + 1) σ1 (.int (iI (wRise F op 0 F.1))) (.int (iI (wRise F op 1 F.1))) w4 w5 w6 w7 (by omega) (by unfold cF; rw [a2 0 (by omega) (by omega) (by omega), a2 7 (by omega) (by omega) (by omega), a2 8 (by omega) (by omega) (by omega), a2 9 (by omega) (by omega) (by omega)]; exact cf) (by unfold cL; rw [a2 1 (by omega) (by omega) (by omega), a2 (1 + 2) (by omega) (by omega) (by omega), a2 (1 + 1) (by omega) (by omega) (by omega)]; exact cb) (by unfold cL; rw [a2 4 (by omega) (by omega) (by omega), a2 (4 + 2) (by omega) (by omega) (by omega), a2 (4 + 1) (by omega) (by omega) (by omega)]; exact cg) (fun x hx hm => by
        by_cases z : x % 16 = op
        · exact a3 x hx z (by omega)
        · obtain ⟨c1, c2, c3⟩ := a4 x (fun y => z y.2.1)
          rw [c1, c2, c3]; exact hd x hx (by omega))
      refine ⟨σ2, ?_, fun c x y z => (b2 c x y z).trans (a2 c x y z), b3⟩
      have h0 := s76 rest hF cf (op := op) (ht := 0) (by omega) (by omega)
      have h1 := s76 rest hF cf (op := op) (ht := 1) (by omega) (by omega)
      rw [show nI 0 = (0 : Int32) from rfl] at h0 a1
      rw [show nI 1 = (1 : Int32) from rfl] at h1
      rw [e75_2, if_neg (by rw [q_16, q_le (by omega) (by omega)]; omega), h0, hb_ci_s, h1, hb_ci_s, a1]
      exact b1
  rw [v75, e75_0]
  exact key 16 0 σ .null .null .null .null .null .null (by omega) cf cb cg (fun x hx h => by omega)
end
