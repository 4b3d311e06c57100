/-! through: the class, one level and the slips to the next -/
def Dn (P : hbGP) (r l : Nat) (σ : hbM) (p : Nat) : Prop := (∀ q, gOn P p = some q → mk σ r q l = true) ∧ (gOn P p = none → tEd σ r (p % 1024) = true)
def Ds (P : hbGP) (r l : Nat) (σ : hbM) (p : Nat) : Prop := ∀ s q, s < 4 → gSl P p s = some q → mk σ r q l = true
def tOv (t : Bool) (σ : hbM) : Prop := t = true ∧ σ 50 6 = 1
theorem tS.Dn {P : hbGP} {r l l' R : Nat} {σ σ' : hbM} (h : tS r l' R σ σ') (hl : l < 3) {p : Nat} (hd : Dn P r l σ p) : Dn P r l σ' p := ⟨fun q e => h.2.2.2.2.1 q l hl (hd.1 q e), fun e => h.2.2.2.2.2.2 _ (hd.2 e)⟩
theorem tS.Ds {P : hbGP} {r l l' R : Nat} {σ σ' : hbM} (h : tS r l' R σ σ') (hl : l < 3) {p : Nat} (hd : Ds P r l σ p) : Ds P r l σ' p := fun s q hs e => h.2.2.2.2.1 q l hl (hd s q hs e)
theorem tS.Lv {r l l' R R' n : Nat} {row : Nat → Nat} {σ σ' : hbM} (h : tS r l' R' σ σ') (hl : l < 3) (hne : l ≠ l') (hR : R = 45 ∨ R = 46) (hR' : R ≠ R') (hL : Lv σ r l R n row) : Lv σ' r l R n row := by
  obtain ⟨l1, l2, l3⟩ := hL
  have hm : ∀ p, mk σ' r p l = mk σ r p l := fun p => h.2.2.2.2.2.1 p l hl hne
  exact ⟨fun k hk => by rw [h.2.2.2.1 R hR hR', hm]; exact l1 k hk, fun q hq z => l2 q hq (by rw [← hm]; exact z), by rw [l3]; exact cnt_eq _ (fun q _ => (hm q).symm)⟩
theorem RR.l {R R' : Nat} (h : RR R R') : R = 45 ∨ R = 46 := h.elim (fun z => Or.inl z.1) (fun z => Or.inr z.1)
theorem RR.s {R R' : Nat} (h : RR R R') : RR R' R := h.elim (fun z => Or.inr ⟨z.2, z.1⟩) (fun z => Or.inl ⟨z.2, z.1⟩)
theorem RR.ne {R R' : Nat} (h : RR R R') : R ≠ R' := by rcases h with ⟨a, b⟩ | ⟨a, b⟩ <;> rw [a, b] <;> decide
theorem tOv_of {h t : Bool} {σ : hbM} (h6 : σ 50 6 = hbb h) (e : (h && t) = true) : tOv t σ := by
  cases h <;> cases t <;> first | exact ⟨rfl, h6⟩ | cases e
theorem s53_loop {P : hbGP} {bd gd : Nat → Bool} {r : Nat} {S : Nat → Prop} {l R R' : Nat} {t : Bool} (hRR : RR R R') (hP : gOk P) (hl : l < 3) (hS : ∀ p q, p < 17408 → S (17408 * l + p) → gOn P p = some q → S (17408 * l + q)) (x2 : Int32) :
    ∀ (f i : Nat) (σ : hbM) (n : Nat) (row : Nat → Nat) (v6 : Value), i + f = 17408 → i ≤ n → tI P bd gd r S σ → σ 50 5 = hbb t → Lv σ r l R n row → (∀ k, k < i → Dn P r l σ (row k)) →
    ∃ σ' n' row', hb_run hbSH 53 (6, [.ref 50, .ref R, .int x2, .int (nI l), .int (nI n), .int (nI i), v6], [], σ) = some (some (.int (nI n')), σ') ∧ tS r l R σ σ' ∧ tI P bd gd r S σ' ∧ Lv σ' r l R n' row' ∧ (tOv t σ' ∨ ∀ p, p < 17408 → mk σ' r p l = true → Dn P r l σ' p) := by
  intro f
  induction f with
  | zero =>
    intro i σ n row v6 hi hin hI h5 hL hD
    have hn : n ≤ 17408 := by rw [hL.2.2]; exact cnt_le _ _
    refine ⟨σ, n, row, ?_, tS.rf _ _ _ _, hI, hL, Or.inr (fun p hp hm => ?_)⟩
    · rw [re53_6 hRR, if_pos (by rw [q_le (by omega) (by omega)]; omega)]
    · obtain ⟨k, hk, e⟩ := hL.2.1 p hp hm
      rw [← e]; exact hD k (by omega)
  | succ f ih =>
    intro i σ n row v6 hi hin hI h5 hL hD
    have hn : n ≤ 17408 := by rw [hL.2.2]; exact cnt_le _ _
    by_cases hni : n ≤ i
    · refine ⟨σ, n, row, ?_, tS.rf _ _ _ _, hI, hL, Or.inr (fun p hp hm => ?_)⟩
      · rw [re53_6 hRR, if_pos (by rw [q_le (by omega) (by omega)]; omega)]
      · obtain ⟨k, hk, e⟩ := hL.2.1 p hp hm
        rw [← e]; exact hD k (by omega)
    · obtain ⟨h, hh1, hh2⟩ := hI.2.1
      rw [re53_6 hRR, if_neg (by rw [q_le (by omega) (by omega)]; omega), if_neg (by rw [q_17408, q_le (by omega) (by omega)]; omega), s55 σ hh1 h5, hb_ci_s]
      cases hov : (h && t) with
      | true =>
        rw [hbb_t, if_pos (by decide)]
        exact ⟨σ, n, row, rfl, tS.rf _ _ _ _, hI, hL, Or.inl (tOv_of hh1 hov)⟩
      | false =>
        obtain ⟨a1, a2, a3⟩ := hL.1 i (by omega)
        have hg8 := s8 hI.1.1 a2
        rw [hI.1.2.1] at hg8
        have hSp : S (17408 * l + row i) := hI.2.2.1 _ (by omega) (by unfold tm; rw [show (17408 * l + row i) % 17408 = row i by omega, show (17408 * l + row i) / 17408 = l by omega]; exact a3)
        rw [hbb_f, if_neg (fun z => z rfl), q_inT (by omega) (by omega), hb_g_t, hb_g_nil, q_cl (by omega), a1, hg8, hb_ci_s]
        have key : ∀ (σ1 : hbM), tS r l R σ σ1 → tI P bd gd r S σ1 → Lv σ1 r l R n row → (gOn P (row i) = none → tEd σ1 r (row i % 1024) = true) →
            ∃ σ' n' row', hb_run hbSH 53 (60, [.ref 50, .ref R, .int x2, .int (nI l), .int (nI n), .int (nI i), .int (hbo (gOn P (row i)))], [], σ1) = some (some (.int (nI n')), σ') ∧ tS r l R σ σ' ∧ tI P bd gd r S σ' ∧ Lv σ' r l R n' row' ∧ (tOv t σ' ∨ ∀ p, p < 17408 → mk σ' r p l = true → Dn P r l σ' p) := by
          intro σ1 b1 b2 b3 b4
          obtain ⟨σ2, n2, row2, c1, c2, c3, c4, c5, c6, c7⟩ := s52 hRR.l hl b2 b3 (gOn P (row i)) (fun p e => ⟨hP.1 _ _ a2 e, hS _ _ a2 hSp e⟩)
          have b12 := b1.tr c2
          obtain ⟨σ3, n3, row3, d1, d2, d3, d4, d5⟩ := ih (i + 1) σ2 n2 row2 (.int (hbo (gOn P (row i)))) (by omega) (by omega) c3 (by rw [b12.2.2.1]; exact h5) c4 (fun k hk => by
            rw [c6 k (by omega)]
            by_cases z : k = i
            · rw [z]; exact ⟨fun q e => c7 q e, fun e => c2.2.2.2.2.2.2 _ (b4 e)⟩
            · exact b12.Dn hl (hD k (by omega)))
          refine ⟨σ3, n3, row3, ?_, b12.tr d2, d3, d4, d5⟩
          rw [re53_60 hRR, c1, hb_ci_s, nI_1]; exact d1
        cases hg : gOn P (row i) with
        | some q =>
          rw [hg] at key
          rw [if_pos (fun z => by rw [show hbo (some q) = nI q from rfl, q_no (by have := hP.1 _ _ a2 hg; omega)] at z; exact z)]
          exact key σ (tS.rf _ _ _ _) hI hL (fun z => by cases z)
        | none =>
          have d1 : decide (¬ (1024 : Int32) = 0) = true := by decide
          have eq1 : nI (row i) / (1024 : Int32) = nI (row i / 1024) := q_div (d := 1024) (by omega) (by omega) (by omega)
          have eq2 : nI (row i) - nI (row i / 1024) * (1024 : Int32) = nI (row i % 1024) := q_rem (d := 1024) (by omega) (by omega) (by omega)
          obtain ⟨σ1, c1, c2, c3, c4, c5⟩ := s56 l R n hRR.l hI hL (s := row i % 1024) (by omega) ⟨17408 * l + row i, by omega, by unfold tm; rw [show (17408 * l + row i) % 17408 = row i by omega, show (17408 * l + row i) / 17408 = l by omega]; exact a3, by rw [show (17408 * l + row i) % 17408 = row i by omega]; exact hg, by omega⟩
          rw [hg] at key
          rw [if_neg (fun z => z rfl), d1, hb_g_t, hb_g_t, hb_g_nil, a1, eq1, eq2, c1, hb_cv_s]
          exact key σ1 c2 c3 c4 (fun _ => c5)
/-- goOnFromAll -/
theorem s53 {P : hbGP} {bd gd : Nat → Bool} {r : Nat} {S : Nat → Prop} {l R R' : Nat} {t : Bool} (hRR : RR R R') (hP : gOk P) (hl : l < 3) (hS : ∀ p q, p < 17408 → S (17408 * l + p) → gOn P p = some q → S (17408 * l + q)) {σ : hbM} {n : Nat} {row : Nat → Nat} (hI : tI P bd gd r S σ) (h5 : σ 50 5 = hbb t) (hL : Lv σ r l R n row) :
    ∃ σ' n' row', hb_ev hbSH 53 [.ref 50, .ref R, .int (nI n), .int (nI l)] σ = some (some (.int (nI n')), σ') ∧ tS r l R σ σ' ∧ tI P bd gd r S σ' ∧ Lv σ' r l R n' row' ∧ (tOv t σ' ∨ ∀ p, p < 17408 → mk σ' r p l = true → Dn P r l σ' p) := by
  have := s53_loop hRR hP hl hS (nI n) 17408 0 σ n row .null (by omega) (by omega) hI h5 hL (fun k hk => by omega)
  rw [rv53 hRR, re53_0 hRR]
  exact this
theorem s54_in {P : hbGP} {bd gd : Nat → Bool} {r : Nat} {S : Nat → Prop} {l R R' : Nat} (hRR : RR R R') (hP : gOk P) (hl : l + 1 < 3) {p : Nat} (hp : p < 17408) (hS : ∀ k q, gSl P p k = some q → S (17408 * (l + 1) + q)) (x2 : Int32) {i : Nat} (hi : i < 17408) :
    ∀ (j k : Nat) (σ : hbM) (n2 : Nat) (row2 : Nat → Nat), k + j = 4 → tI P bd gd r S σ → Lv σ r (l + 1) R' n2 row2 → σ R i = nI p →
    ∃ σ' n2' row2', hb_run hbSH 54 (22, [.ref 50, .ref R, .int x2, .ref R', .int (nI (l + 1)), .int (nI n2), .int (nI i), .int (nI k)], [], σ) = hb_run hbSH 54 (6, [.ref 50, .ref R, .int x2, .ref R', .int (nI (l + 1)), .int (nI n2'), .int (nI (i + 1)), .int (nI 4)], [], σ') ∧ tS r (l + 1) R' σ σ' ∧ tI P bd gd r S σ' ∧ Lv σ' r (l + 1) R' n2' row2' ∧ ∀ s q, k ≤ s → s < 4 → gSl P p s = some q → mk σ' r q (l + 1) = true := by
  intro j
  induction j with
  | zero =>
    intro k σ n2 row2 hk hI hL hrow
    obtain rfl : k = 4 := by omega
    refine ⟨σ, n2, row2, ?_, tS.rf _ _ _ _, hI, hL, fun s q h1 h2 => by omega⟩
    rw [re54_22 hRR, if_pos (by decide), nI_1]
  | succ j ih =>
    intro k σ n2 row2 hk hI hL hrow
    have hg := s10 hI.1.1 hp (k := k) (by omega)
    rw [hI.1.2.1] at hg
    obtain ⟨σ1, n1, row1, c1, c2, c3, c4, c5, c6, c7⟩ := s52 hRR.s.l hl hI hL (gSl P p k) (fun q e => ⟨hP.2.1 _ _ _ hp e, hS _ _ e⟩)
    obtain ⟨σ2, n3, row3, d1, d2, d3, d4, d5⟩ := ih (k + 1) σ1 n1 row1 (by omega) c3 c4 (by rw [c2.2.2.2.1 R hRR.l hRR.ne]; exact hrow)
    refine ⟨σ2, n3, row3, ?_, c2.tr d2, d3, d4, fun s q h1 h2 e => ?_⟩
    · rw [re54_22 hRR, if_neg (by rw [q_4, q_le (by omega) (by omega)]; omega), q_inT (by omega) hi, hb_g_t, hb_g_nil, q_cl (by omega), hrow, hg, hb_ci_s, c1, hb_ci_s, nI_1]
      exact d1
    · by_cases z : s = k
      · rw [z] at e; exact d2.2.2.2.2.1 q _ hl (c7 q e)
      · exact d5 s q (by omega) h2 e
theorem s54_loop {P : hbGP} {bd gd : Nat → Bool} {r : Nat} {S : Nat → Prop} {l R R' : Nat} {t : Bool} (hRR : RR R R') (hP : gOk P) (hl : l + 1 < 3) (hS : ∀ p k q, p < 17408 → S (17408 * l + p) → gSl P p k = some q → S (17408 * (l + 1) + q)) {n : Nat} {row : Nat → Nat} :
    ∀ (f i : Nat) (σ : hbM) (n2 : Nat) (row2 : Nat → Nat) (v7 : Value), i + f = n → tI P bd gd r S σ → σ 50 5 = hbb t → Lv σ r l R n row → Lv σ r (l + 1) R' n2 row2 → (∀ k, k < i → Ds P r (l + 1) σ (row k)) →
    ∃ σ' n2' row2', hb_run hbSH 54 (6, [.ref 50, .ref R, .int (nI n), .ref R', .int (nI (l + 1)), .int (nI n2), .int (nI i), v7], [], σ) = some (some (.int (nI n2')), σ') ∧ tS r (l + 1) R' σ σ' ∧ tI P bd gd r S σ' ∧ Lv σ' r (l + 1) R' n2' row2' ∧ (tOv t σ' ∨ ∀ k, k < n → Ds P r (l + 1) σ' (row k)) := by
  intro f
  induction f with
  | zero =>
    intro i σ n2 row2 v7 hi hI h5 hL hL2 hD
    have hn : n ≤ 17408 := by rw [hL.2.2]; exact cnt_le _ _
    refine ⟨σ, n2, row2, ?_, tS.rf _ _ _ _, hI, hL2, Or.inr (fun k hk => hD k (by omega))⟩
    rw [re54_6 hRR, if_pos (by rw [q_le (by omega) (by omega)]; omega)]
  | succ f ih =>
    intro i σ n2 row2 v7 hi hI h5 hL hL2 hD
    have hn : n ≤ 17408 := by rw [hL.2.2]; exact cnt_le _ _
    obtain ⟨h, hh1, hh2⟩ := hI.2.1
    rw [re54_6 hRR, if_neg (by rw [q_le (by omega) (by omega)]; omega), s55 σ hh1 h5, hb_ci_s]
    cases hov : (h && t) with
    | true =>
      rw [hbb_t, if_pos (by decide)]
      exact ⟨σ, n2, row2, rfl, tS.rf _ _ _ _, hI, hL2, Or.inl (tOv_of hh1 hov)⟩
    | false =>
      obtain ⟨a1, a2, a3⟩ := hL.1 i (by omega)
      have hSp : S (17408 * l + row i) := hI.2.2.1 _ (by omega) (by unfold tm; rw [show (17408 * l + row i) % 17408 = row i by omega, show (17408 * l + row i) / 17408 = l by omega]; exact a3)
      obtain ⟨σ1, n1, row1, c1, c2, c3, c4, c5⟩ := s54_in hRR hP hl a2 (fun k q e => hS _ k q a2 hSp e) (nI n) (i := i) (by omega) 4 0 σ n2 row2 (by omega) hI hL2 a1
      obtain ⟨σ2, n3, row3, d1, d2, d3, d4, d5⟩ := ih (i + 1) σ1 n1 row1 (.int (nI 4)) (by omega) c3 (by rw [c2.2.2.1]; exact h5) (c2.Lv (by omega) (by omega) hRR.l hRR.ne hL) c4 (fun k hk => by
        by_cases z : k = i
        · rw [z]; exact fun s q hs e => c5 s q (by omega) hs e
        · exact c2.Ds hl (hD k (by omega)))
      refine ⟨σ2, n3, row3, ?_, c2.tr d2, d3, d4, d5⟩
      rw [hbb_f, if_neg (fun z => z rfl)]
      exact c1.trans d1
/-- slipFromAll -/
theorem s54 {P : hbGP} {bd gd : Nat → Bool} {r : Nat} {S : Nat → Prop} {l R R' : Nat} {t : Bool} (hRR : RR R R') (hP : gOk P) (hl : l + 1 < 3) (hS : ∀ p k q, p < 17408 → S (17408 * l + p) → gSl P p k = some q → S (17408 * (l + 1) + q)) {σ : hbM} {n : Nat} {row : Nat → Nat} (hI : tI P bd gd r S σ) (h5 : σ 50 5 = hbb t) (hL : Lv σ r l R n row) (h0 : ∀ p, p < 17408 → mk σ r p (l + 1) = false) :
    ∃ σ' n2 row2, hb_ev hbSH 54 [.ref 50, .ref R, .int (nI n), .ref R', .int (nI (l + 1))] σ = some (some (.int (nI n2)), σ') ∧ tS r (l + 1) R' σ σ' ∧ tI P bd gd r S σ' ∧ Lv σ' r (l + 1) R' n2 row2 ∧ (tOv t σ' ∨ ∀ k, k < n → Ds P r (l + 1) σ' (row k)) := by
  have := s54_loop (t := t) hRR hP hl hS (n := n) (row := row) n 0 σ 0 (fun _ => 0) .null (by omega) hI h5 hL ⟨fun k hk => by omega, fun p hp z => (by rw [h0 p hp] at z; cases z), (cnt_0 _ _ h0).symm⟩ (fun k hk => by omega)
  rw [rv54 hRR, re54_0 hRR]
  exact this
