/-! cheapest: the reference -/
def sm (f : Nat → Nat) : Nat → Nat
  | 0 => 0
  | n + 1 => sm f n + f n
theorem sm_s (f : Nat → Nat) (n : Nat) : sm f (n + 1) = sm f n + f n := rfl
theorem sm_eq {f g : Nat → Nat} : ∀ n, (∀ i, i < n → f i = g i) → sm f n = sm g n := by
  intro n
  induction n with
  | zero => intro _; rfl
  | succ n ih => intro h; rw [sm_s, sm_s, ih (fun i hi => h i (by omega)), h n (by omega)]
theorem sm_up {f g : Nat → Nat} {p : Nat} (hne : ∀ i, i ≠ p → g i = f i) (hlt : g p < f p) : ∀ n, p < n → sm g n + 1 ≤ sm f n := by
  intro n
  induction n with
  | zero => intro h; omega
  | succ n ih =>
    intro h
    rw [sm_s, sm_s]
    by_cases z : n = p
    · rw [z, sm_eq (f := g) (g := f) p (fun i hi => hne i (by omega))]; omega
    · have := ih (by omega)
      rw [hne n z]; omega
abbrev nS (S : Nat → Bool) : Nat := cnt S 17408
def phi (S : Nat → Bool) (L : Nat → Nat) : Nat := sm (fun p => if S p = true then L p else 222848000) 17408
section
variable (P : hbGP) (pr : Nat → Nat) (bd : Nat → Bool) (st : Nat)
def rQ (fi ln : Nat) (Q L : Nat → Nat) (S W : Nat → Bool) (σ : hbM) : Prop :=
  (σ 54 43 = nI fi ∧ fi < 52224 ∧ σ 54 42 = nI ln) ∧ (∀ k, k < ln → σ 71 ((fi + k) % 52224) = nI (Q k) ∧ Q k < 17408 ∧ W (Q k) = true) ∧ (∀ a b, a < ln → b < ln → Q a = Q b → a = b) ∧ (∀ p, p < 17408 → W p = true → ∃ k, k < ln ∧ Q k = p) ∧ ln = cnt W 17408 ∧
  (∀ p, p < 17408 → σ 75 p = hbb (W p) ∧ (W p = true → S p = true)) ∧ (∀ p, p < 17408 → σ 74 p = if S p = true then nI (rf (L p)) else -1) ∧ ∀ p, p < 17408 → S p = true → vK (L p) ∧ L p ≤ 12800 * nS S ∧ Wk P pr bd st p (L p)
end
def rR (L L' : Nat → Nat) (S S' W W' : Nat → Bool) : Prop := (∀ p, p < 17408 → S p = true → S' p = true ∧ L' p ≤ L p) ∧ ∀ p, p < 17408 → S' p = true → W' p = false → S p = true ∧ W p = false ∧ L' p = L p
theorem rR.rf (L : Nat → Nat) (S W : Nat → Bool) : rR L L S S W W := ⟨fun _ _ h => ⟨h, Nat.le_refl _⟩, fun _ _ h h' => ⟨h, h', rfl⟩⟩
theorem rR.tr {L1 L2 L3 : Nat → Nat} {S1 S2 S3 W1 W2 W3 : Nat → Bool} (h1 : rR L1 L2 S1 S2 W1 W2) (h2 : rR L2 L3 S2 S3 W2 W3) : rR L1 L3 S1 S3 W1 W3 := by
  refine ⟨fun p hp h => ?_, fun p hp h h' => ?_⟩
  · obtain ⟨a, b⟩ := h1.1 p hp h
    obtain ⟨c, d⟩ := h2.1 p hp a
    exact ⟨c, by omega⟩
  · obtain ⟨a, b, c⟩ := h2.2 p hp h h'
    obtain ⟨d, e, f⟩ := h1.2 p hp a b
    exact ⟨d, e, by omega⟩
theorem rf_le (K : Nat) : rf K ≤ K := by unfold rf; omega
section
variable {P : hbGP} {pr : Nat → Nat} {bd : Nat → Bool} {st : Nat}
/-- offer -/
theorem s164 {fi ln q K : Nat} {Q L : Nat → Nat} {S W : Nat → Bool} {σ : hbM} (hQ : rQ P pr bd st fi ln Q L S W σ) (hq : q < 17408) (hvK : vK K) (hWk : Wk P pr bd st q K) (hKb : K ≤ 12800 * nS S + 12799) :
    ∃ σ' ln' Q' L' S' W', hb_ev hbSH 164 [.ref 54, .int (nI q), .int (nI (rf K))] σ = some (none, σ') ∧ rQ P pr bd st fi ln' Q' L' S' W' σ' ∧ mS σ σ' ∧ rR L L' S S' W W' ∧ (S' q = true ∧ L' q ≤ K) ∧ 2 * phi S' L' + ln' ≤ 2 * phi S L + ln ∧ nS S ≤ nS S' := by
  obtain ⟨⟨q1, q2, q3⟩, q4, q5, q6, q7, q8, q9, q10⟩ := id hQ
  have hN : nS S ≤ 17408 := cnt_le _ _
  have hW : cnt W 17408 ≤ 17408 := cnt_le _ _
  have hin : hb_in (nI q) 17408 = true := q_inT (by omega) hq
  have hrK := rf_le K
  rw [v164, e164_0, hin, hb_g_t, hb_g_nil, q_cl (by omega), q9 q hq]
  by_cases hno : S q = true ∧ L q ≤ K
  · obtain ⟨s1, s2⟩ := hno
    obtain ⟨c1, c2, c3⟩ := q10 q hq s1
    have := rf_le (L q)
    rw [if_pos s1, if_neg (nI_pos (by omega)), hb_g_t, hb_g_nil, if_pos (by
      rw [q_le (by omega) (by omega)]
      have := rf_lt hvK c1
      omega)]
    exact ⟨σ, ln, Q, L, S, W, rfl, hQ, mS.rf σ, rR.rf L S W, ⟨s1, s2⟩, Nat.le_refl _, Nat.le_refl _⟩
  · -- the label is laid
    obtain ⟨L1, hL1, hL1q⟩ : ∃ L1 : Nat → Nat, (∀ x, x ≠ q → L1 x = L x) ∧ L1 q = K := ⟨fun x => if x = q then K else L x, fun x hx => if_neg hx, if_pos rfl⟩
    obtain ⟨S1, hS1, hS1q⟩ : ∃ S1 : Nat → Bool, (∀ x, x ≠ q → S1 x = S x) ∧ S1 q = true := ⟨fun x => S x || decide (x = q), fun x hx => by show (S x || decide (x = q)) = S x; rw [decide_eq_false hx, Bool.or_false], by show (S q || decide (q = q)) = true; simp⟩
    have hSm : ∀ p, S p = true → S1 p = true := fun p h => by
      by_cases z : p = q
      · rw [z]; exact hS1q
      · rw [hS1 p z]; exact h
    have hNm : nS S ≤ nS S1 := cnt_mono _ (fun p _ h => hSm p h)
    have hN1 : nS S1 ≤ 17408 := cnt_le _ _
    have hKn : K ≤ 12800 * nS S1 := by
      cases hs : S q with
      | true =>
        have hk : ¬ L q ≤ K := fun z => hno ⟨hs, z⟩
        have := (q10 q hq hs).2.1
        omega
      | false =>
        have := cnt_set (f := S) hs 17408 hq
        have e : nS S1 = nS S + 1 := by
          rw [← this]
          exact cnt_eq _ (fun p _ => by
            show S1 p = (S p || decide (p = q))
            by_cases z : p = q
            · rw [z, hS1q]; simp
            · rw [hS1 p z, decide_eq_false z, Bool.or_false])
        omega
    have hphi : phi S1 L1 + 1 ≤ phi S L := by
      refine sm_up (f := fun p => if S p = true then L p else 222848000) (g := fun p => if S1 p = true then L1 p else 222848000) (p := q) (fun i hi => ?_) ?_ 17408 hq
      · show (if S1 i = true then L1 i else 222848000) = (if S i = true then L i else 222848000)
        rw [hS1 i hi, hL1 i hi]
      · show (if S1 q = true then L1 q else 222848000) < (if S q = true then L q else 222848000)
        rw [if_pos hS1q, hL1q]
        by_cases z : S q = true
        · rw [if_pos z]
          have hk : ¬ L q ≤ K := fun y => hno ⟨z, y⟩
          omega
        · rw [if_neg z]; omega
    have h10 : ∀ p, p < 17408 → S1 p = true → vK (L1 p) ∧ L1 p ≤ 12800 * nS S1 ∧ Wk P pr bd st p (L1 p) := fun p hp h => by
      by_cases z : p = q
      · rw [z, hL1q]; exact ⟨hvK, hKn, hWk⟩
      · rw [hS1 p z] at h
        obtain ⟨c1, c2, c3⟩ := q10 p hp h
        rw [hL1 p z]; exact ⟨c1, by omega, c3⟩
    have hgo : (if (if S q = true then nI (rf (L q)) else (-1 : Int32)) < 0 then hb_run hbSH 164 (19, [.ref 54, .int (nI q), .int (nI (rf K))], [], σ) else hb_g [true] (if (if S q = true then nI (rf (L q)) else (-1 : Int32)) ≤ nI (rf K) then some (none, σ) else hb_run hbSH 164 (19, [.ref 54, .int (nI q), .int (nI (rf K))], [], σ))) = hb_run hbSH 164 (19, [.ref 54, .int (nI q), .int (nI (rf K))], [], σ) := by
      by_cases z : S q = true
      · obtain ⟨c1, c2, c3⟩ := q10 q hq z
        have hk : ¬ L q ≤ K := fun y => hno ⟨z, y⟩
        have := rf_le (L q)
        have h2 := rf_lt hvK c1
        rw [if_pos z, if_neg (nI_pos (by omega)), hb_g_t, hb_g_nil, if_neg (by rw [q_le (by omega) (by omega)]; omega)]
      · rw [if_neg z, if_pos (by decide)]
    rw [hgo, e164_19, hin, hb_g_t, hb_g_t, hb_g_nil, q_cl (by omega), (q8 q hq).1]
    have h74 : ∀ (σ1 : hbM), (∀ p, σ1 74 p = if p = q then nI (rf K) else σ 74 p) → ∀ p, p < 17408 → σ1 74 p = if S1 p = true then nI (rf (L1 p)) else -1 := fun σ1 h p hp => by
      rw [h]
      by_cases z : p = q
      · rw [if_pos z, z, if_pos hS1q, hL1q]
      · rw [if_neg z, hS1 p z, hL1 p z]; exact q9 p hp
    cases hw : W q with
    | true =>
      rw [hbb_t, if_pos (by decide)]
      generalize hσ1 : hb_up σ 74 q (nI (rf K)) = σ1
      have ho : ∀ c, c ≠ 74 → σ1 c = σ c := fun c hc => by rw [← hσ1, um_c _ _ _ hc]
      have hsq : S q = true := (q8 q hq).2 hw
      refine ⟨σ1, ln, Q, L1, S1, W, rfl, ⟨⟨by rw [ho 54 (by omega)]; exact q1, q2, by rw [ho 54 (by omega)]; exact q3⟩, fun k hk => by rw [ho 71 (by omega)]; exact q4 k hk, q5, q6, q7, fun p hp => ⟨by rw [ho 75 (by omega)]; exact (q8 p hp).1, fun h => hSm p ((q8 p hp).2 h)⟩, h74 σ1 (fun p => by rw [← hσ1, um_at]), h10⟩, by rw [← hσ1]; exact (mS.rf σ).up _ _ (by omega), ⟨fun p hp h => ⟨hSm p h, ?_⟩, fun p hp h h' => ?_⟩, ⟨hS1q, by rw [hL1q]; exact Nat.le_refl _⟩, by omega, hNm⟩
      · by_cases z : p = q
        · rw [z, hL1q]
          have hk : ¬ L q ≤ K := fun y => hno ⟨hsq, y⟩
          omega
        · rw [hL1 p z]; exact Nat.le_refl _
      · have z : p ≠ q := fun z => by rw [z, hw] at h'; cases h'
        rw [hS1 p z] at h
        exact ⟨h, h', hL1 p z⟩
    | false =>
      have hcs := cnt_set (f := W) hw 17408 hq
      have hcl := cnt_le (fun x => W x || decide (x = q)) 17408
      have d1 : decide (¬ (52224 : Int32) = 0) = true := by decide
      have eqa : nI fi + nI ln = nI (fi + ln) := q_add _ _
      have eq1 : nI (fi + ln) / (52224 : Int32) = nI ((fi + ln) / 52224) := q_div (d := 52224) (by omega) (by omega) (by omega)
      have eq2 : nI (fi + ln) - nI ((fi + ln) / 52224) * (52224 : Int32) = nI ((fi + ln) % 52224) := q_rem (d := 52224) (by omega) (by omega) (by omega)
      rw [hbb_f, if_neg (fun z => z rfl), show hb_01 1 = true from rfl, d1, q1, q3, eqa, eq1, eq2, q_inT (by omega) (by omega), hb_g_t, hb_g_t, hb_g_t, hb_g_t, hb_g_nil, q_cl (by omega), nI_1]
      generalize hσ1 : hb_up (hb_up (hb_up (hb_up σ 74 q (nI (rf K))) 75 q 1) 71 ((fi + ln) % 52224) (nI q)) 54 42 (nI (ln + 1)) = σ1
      have h54 : ∀ i, i ≠ 42 → σ1 54 i = σ 54 i := fun i hi => by rw [← hσ1, um_i _ _ _ hi, um_c _ _ _ (by omega), um_c _ _ _ (by omega), um_c _ _ _ (by omega)]
      obtain ⟨Q1, hQ1, hQ1n⟩ : ∃ Q1 : Nat → Nat, (∀ k, k < ln → Q1 k = Q k) ∧ Q1 ln = q := ⟨fun k => if k = ln then q else Q k, fun k hk => if_neg (by omega), if_pos rfl⟩
      have hQq : ∀ k, k < ln → Q k ≠ q := fun k hk z => by
        have := (q4 k hk).2.2
        rw [z, hw] at this; cases this
      refine ⟨σ1, ln + 1, Q1, L1, S1, fun p => W p || decide (p = q), rfl, ⟨⟨by rw [h54 43 (by omega)]; exact q1, q2, by rw [← hσ1, um_s]⟩, fun k hk => ?_, fun a b ha hb e => ?_, fun p hp h => ?_, by omega, fun p hp => ⟨?_, fun h => ?_⟩, h74 σ1 (fun p => by rw [← hσ1, um_c _ _ _ (by omega), um_c _ _ _ (by omega), um_c _ _ _ (by omega), um_at]), h10⟩, by rw [← hσ1]; exact ((((mS.rf σ).up _ _ (by omega)).up _ _ (by omega)).up _ _ (by omega)).upf _ (by omega), ⟨fun p hp h => ⟨hSm p h, ?_⟩, fun p hp h h' => ?_⟩, ⟨hS1q, by rw [hL1q]; exact Nat.le_refl _⟩, by omega, hNm⟩
      · rw [← hσ1, um_c _ _ _ (by omega), um_at]
        by_cases z : k = ln
        · rw [z, if_pos rfl, hQ1n]
          exact ⟨rfl, hq, by simp⟩
        · rw [if_neg (by omega), um_c _ _ _ (by omega), um_c _ _ _ (by omega), hQ1 k (by omega)]
          obtain ⟨e1, e2, e3⟩ := q4 k (by omega)
          exact ⟨e1, e2, by show (W (Q k) || decide (Q k = q)) = true; rw [e3]; rfl⟩
      · by_cases za : a = ln
        · by_cases zb : b = ln
          · omega
          · rw [za, hQ1n, hQ1 b (by omega)] at e
            exact absurd e.symm (hQq b (by omega))
        · by_cases zb : b = ln
          · rw [zb, hQ1n, hQ1 a (by omega)] at e
            exact absurd e (hQq a (by omega))
          · rw [hQ1 a (by omega), hQ1 b (by omega)] at e
            exact q5 a b (by omega) (by omega) e
      · by_cases z : p = q
        · exact ⟨ln, by omega, by rw [hQ1n, z]⟩
        · have h : (W p || decide (p = q)) = true := h
          rw [decide_eq_false z, Bool.or_false] at h
          obtain ⟨k, hk, e⟩ := q6 p hp h
          exact ⟨k, by omega, by rw [hQ1 k hk]; exact e⟩
      · rw [← hσ1, um_c _ _ _ (by omega), um_c _ _ _ (by omega), um_at]
        by_cases z : p = q
        · rw [if_pos z]; show (1 : Int32) = hbb (W p || decide (p = q)); rw [decide_eq_true z, Bool.or_true]; rfl
        · rw [if_neg z, um_c _ _ _ (by omega)]; show σ 75 p = hbb (W p || decide (p = q)); rw [decide_eq_false z, Bool.or_false]; exact (q8 p hp).1
      · by_cases z : p = q
        · rw [z]; exact hS1q
        · have h : (W p || decide (p = q)) = true := h
          rw [decide_eq_false z, Bool.or_false] at h
          exact hSm p ((q8 p hp).2 h)
      · by_cases z : p = q
        · rw [z, hL1q]
          rw [z] at h
          have hk : ¬ L q ≤ K := fun y => hno ⟨h, y⟩
          omega
        · rw [hL1 p z]; exact Nat.le_refl _
      · have h' : (W p || decide (p = q)) = false := h'
        rw [Bool.or_eq_false_iff, decide_eq_false_iff_not] at h'
        rw [hS1 p h'.2] at h
        exact ⟨h, h'.1, hL1 p h'.2⟩
/-- the slips of a place -/
theorem s165_192 {F : hbF} (hP : gOk P) (hn : P.1 ≤ 16) (hpr : prOk pr) (x1 x2 x3 x6 : Int32) {p κ fi : Nat} (hp : p < 17408) (hκ : vK κ) (hWp : Wk P pr bd st p κ) (hb : bd (p % 1024) = false) : ∀ (g j : Nat) (σ : hbM) (ln : Nat) (Q L : Nat → Nat) (S W : Nat → Bool) (v8 : Value), j + g = 4 → rQ P pr bd st fi ln Q L S W σ → mR σ P F → (∀ s, s < 4 → σ 69 s = nI (pr s)) → κ ≤ 12800 * nS S →
    ∃ σ' ln' Q' L' S' W' w4 w5 w6 w7 w8, hb_run hbSH 165 (192, [.ref 54, .int x1, .int x2, .int x3, .int (nI p), .int (nI (rf κ)), .int x6, .int (nI j), v8], [], σ) = hb_run hbSH 165 (73, [.ref 54, .int x1, .int x2, .int x3, w4, w5, w6, w7, w8], [], σ') ∧ rQ P pr bd st fi ln' Q' L' S' W' σ' ∧ mS σ σ' ∧ rR L L' S S' W W' ∧ 2 * phi S' L' + ln' ≤ 2 * phi S L + ln ∧ ∀ s q, j ≤ s → s < 4 → gSl P p s = some q → S' q = true ∧ L' q ≤ eK pr κ p s := by
  intro g
  induction g with
  | zero =>
    intro j σ ln Q L S W v8 hj hQ hR h69 hk
    obtain rfl : j = 4 := by omega
    rw [e165_192, if_pos (by decide)]
    exact ⟨σ, ln, Q, L, S, W, _, _, _, _, _, rfl, hQ, mS.rf σ, rR.rf L S W, Nat.le_refl _, fun s q h1 h2 => by omega⟩
  | succ g ih =>
    intro j σ ln Q L S W v8 hj hQ hR h69 hk
    have hN : nS S ≤ 17408 := cnt_le _ _
    obtain ⟨p1, p2⟩ := hpr j (by omega)
    have hrκ := rf_le κ
    rw [e165_192, if_neg (by rw [q_4, q_le (by omega) (by omega)]; omega), s153 hR hp (by omega), hb_ci_s]
    cases hg : gSl P p j with
    | none =>
      obtain ⟨σ', ln', Q', L', S', W', w4, w5, w6, w7, w8, r1, r2, r3, r4, r5, r6⟩ := ih (j + 1) σ ln Q L S W (.int (hbo none)) (by omega) hQ hR h69 hk
      refine ⟨σ', ln', Q', L', S', W', w4, w5, w6, w7, w8, ?_, r2, r3, r4, r5, fun s q h1 h2 h3 => ?_⟩
      · rw [if_pos (show hbo none = (-1000000 : Int32) from rfl), nI_1]; exact r1
      · by_cases z : s = j
        · rw [z, hg] at h3; cases h3
        · exact r6 s q (by omega) h2 h3
    | some q =>
      have hq := hP.2.1 _ _ _ hp hg
      have h16 := gSl_16 hg
      have hE : eK pr κ p j ≤ κ + 12736 := by unfold eK; split <;> omega
      have hrf := rf_e hpr hκ (p := p) (s := j) (by omega) (by omega)
      obtain ⟨σ1, ln1, Q1, L1, S1, W1, a1, a2, a3, a4, a5, a6, a7⟩ := s164 hQ hq (vK_e hpr hκ (p := p) (s := j) (by omega) (by omega)) (Wk_s hWp hb (Or.inr ⟨j, by omega, hg, rfl⟩)) (by omega)
      obtain ⟨σ2, ln2, Q2, L2, S2, W2, w4, w5, w6, w7, w8, r1, r2, r3, r4, r5, r6⟩ := ih (j + 1) σ1 ln1 Q1 L1 S1 W1 (.int (hbo (some q))) (by omega) a2 (mS_mR a3 hR) (fun s hs => by rw [a3.1 69 (by omega) (by omega)]; exact h69 s hs) (by omega)
      refine ⟨σ2, ln2, Q2, L2, S2, W2, w4, w5, w6, w7, w8, ?_, r2, a3.tr r3, a4.tr r4, by omega, fun s q' h1 h2 h3 => ?_⟩
      · have d1 : decide (¬ (1024 : Int32) = 0) = true := by decide
        have eq1 : nI p / (1024 : Int32) = nI (p / 1024) := q_div (d := 1024) (by omega) (by omega) (by omega)
        have em : nI (rf κ) + (64 : Int32) * nI (pr j) = nI (rf κ + 64 * pr j) := by rw [show (64 : Int32) = nI 64 from rfl, q_mul, q_add]
        have et : (4 : Int32) * nI (p / 1024) + nI j = nI (4 * (p / 1024) + j) := by rw [q_4, q_mul, q_add]
        have eq251 : hb_run hbSH 165 (251, [.ref 54, .int x1, .int x2, .int x3, .int (nI p), .int (nI (rf κ)), .int x6, .int (nI j), .int (hbo (some q))], [.int (nI (if rf κ = 0 then 4 * (p / 1024) + j else 0)), .int (nI (rf κ + 64 * pr j)), .int (hbo (some q)), .ref 54], σ) = hb_run hbSH 165 (73, [.ref 54, .int x1, .int x2, .int x3, w4, w5, w6, w7, w8], [], σ2) := by
          rw [e165_251, q_add, ← hrf, show hbo (some q) = nI q from rfl, a1, hb_cv_s, nI_1]
          exact r1
        rw [if_neg (show ¬ hbo (some q) = (-1000000 : Int32) from nno (by omega)), q_inT (by omega) (by omega), hb_g_t, hb_g_nil, q_cl (by omega), h69 j (by omega), em]
        by_cases z : rf κ = 0
        · rw [if_pos z] at eq251
          rw [if_neg (fun y => y (by rw [z]; rfl)), d1, hb_g_t, hb_g_nil, eq1, et]
          exact eq251
        · rw [if_neg z] at eq251
          rw [if_pos (fun y => z (by rw [q_0, q_eq (by omega) (by omega)] at y; exact y))]
          exact eq251
      · by_cases z : s = j
        · rw [z] at h3 ⊢
          rw [hg] at h3; cases h3
          obtain ⟨d1, d2⟩ := r4.1 q hq a5.1
          exact ⟨d1, by omega⟩
        · exact r6 s q' (by omega) h2 h3
/-- what is settled in the reference -/
def rC (P : hbGP) (pr : Nat → Nat) (bd : Nat → Bool) (L : Nat → Nat) (S W : Nat → Bool) (o : Option Nat) (p : Nat) : Prop := S p = true → W p = false → (bd (p % 1024) = true → ∃ K, o = some K ∧ K ≤ L p) ∧ (bd (p % 1024) = false → ∀ q K', Ed P pr p (L p) q K' → S q = true ∧ L q ≤ K')
theorem s165_73 {F : hbF} {B : hbL} (hP : gOk P) (hn : P.1 ≤ 16) (hpr : prOk pr) (hst : st < 17408) (hbd : bd = fun s => wAny B s B.1) (x1 x2 : Int32) : ∀ (m fi ln : Nat) (σ : hbM) (Q L : Nat → Nat) (S W : Nat → Bool) (o : Option Nat) (v4 v5 v6 v7 v8 : Value), 2 * phi S L + ln < m → rQ P pr bd st fi ln Q L S W σ → mR σ P F → mL σ B 9 0 → (∀ s, s < 4 → σ 69 s = nI (pr s)) → S st = true → L st = 0 → (∀ p, p < 17408 → rC P pr bd L S W o p) → (∀ K, o = some K → vK K ∧ K < 300000000 ∧ ∃ p, Wk P pr bd st p K ∧ bd (p % 1024) = true) →
    ∃ σ' o' v4' v5' v6' v7' v8', hb_run hbSH 165 (73, [.ref 54, .int x1, .int x2, .int (hbo (o.map rf)), v4, v5, v6, v7, v8], [], σ) = hb_run hbSH 165 (73, [.ref 54, .int x1, .int x2, .int (hbo (o'.map rf)), v4', v5', v6', v7', v8'], [], σ') ∧ mS σ σ' ∧ σ' 54 42 = 0 ∧ cSp P pr bd st o' ∧ ∀ K, o' = some K → vK K ∧ K < 300000000 := by
  intro m
  induction m with
  | zero => intro fi ln σ Q L S W o v4 v5 v6 v7 v8 h; omega
  | succ m ih =>
    intro fi ln σ Q L S W o v4 v5 v6 v7 v8 hm hQ hR hB h69 hS hL hC ho
    obtain ⟨⟨q1, q2, q3⟩, q4, q5, q6, q7, q8, q9, q10⟩ := id hQ
    have hW : cnt W 17408 ≤ 17408 := cnt_le _ _
    have hN : nS S ≤ 17408 := cnt_le _ _
    by_cases hl : ln = 0
    · subst hl
      have hw : ∀ p, p < 17408 → W p = false := fun p hp => by
        cases z : W p with
        | false => rfl
        | true => obtain ⟨k, hk, _⟩ := q6 p hp z; omega
      refine ⟨σ, o, v4, v5, v6, v7, v8, rfl, mS.rf σ, q3, ?_, fun K e => ⟨(ho K e).1, (ho K e).2.1⟩⟩
      have hall : ∀ p K, Wk P pr bd st p K → p < 17408 ∧ vK K ∧ S p = true ∧ L p ≤ K := fun p K hW => hW (fun p K => p < 17408 ∧ vK K ∧ S p = true ∧ L p ≤ K) ⟨hst, Or.inl rfl, hS, by omega⟩ (fun p K q K' h hb e => by
        obtain ⟨h1, h2, h3, h4⟩ := h
        obtain ⟨a1, a2, a3⟩ := Ed_ok hP hn hpr h1 h2 e
        obtain ⟨K3, b1, b2⟩ := Ed_mono hn (q10 p h1 h3).1 h2 h4 e
        obtain ⟨c1, c2⟩ := (hC p h1 h3 (hw p h1)).2 hb q K3 b1
        exact ⟨a1, a2, c1, by omega⟩)
      cases o with
      | none =>
        intro p K hWk
        obtain ⟨h1, _, h3, _⟩ := hall p K hWk
        cases hb : bd (p % 1024) with
        | false => rfl
        | true =>
          obtain ⟨K', e, _⟩ := (hC p h1 h3 (hw p h1)).1 hb
          cases e
      | some K0 =>
        refine ⟨(ho K0 rfl).2.2, fun p K hWk hb => ?_⟩
        obtain ⟨h1, _, h3, h4⟩ := hall p K hWk
        obtain ⟨K', e, h5⟩ := (hC p h1 h3 (hw p h1)).1 hb
        cases e
        omega
    · obtain ⟨e1, e2, e3⟩ := q4 0 (by omega)
      rw [Nat.add_zero, Nat.mod_eq_of_lt q2] at e1
      generalize hp0 : Q 0 = p at e1 e2 e3
      have hSp := (q8 p e2).2 e3
      obtain ⟨k1, k2, k3⟩ := q10 p e2 hSp
      have h74 := q9 p e2
      rw [if_pos hSp] at h74
      have hrl := rf_le (L p)
      have d1 : decide (¬ (1024 : Int32) = 0) = true := by decide
      have d5 : decide (¬ (52224 : Int32) = 0) = true := by decide
      have eq1 : nI p / (1024 : Int32) = nI (p / 1024) := q_div (d := 1024) (by omega) (by omega) (by omega)
      have eq2 : nI p - nI (p / 1024) * (1024 : Int32) = nI (p % 1024) := q_rem (d := 1024) (by omega) (by omega) (by omega)
      have eq3 : nI (fi + 1) / (52224 : Int32) = nI ((fi + 1) / 52224) := q_div (d := 52224) (by omega) (by omega) (by omega)
      have eq4 : nI (fi + 1) - nI ((fi + 1) / 52224) * (52224 : Int32) = nI ((fi + 1) % 52224) := q_rem (d := 52224) (by omega) (by omega) (by omega)
      have eq5 : nI ln - (1 : Int32) = nI (ln - 1) := by rw [q_1, q_sub (by omega)]
      rw [e165_73, q3, if_neg (by rw [q_0, q_le (by omega) (by omega)]; omega), q1, q_inT (by omega) q2, d5, q_cl (by omega), e1, q_inT (by omega) e2, show hb_01 0 = true from rfl, d1, hb_g_t, hb_g_t, hb_g_t, hb_g_t, hb_g_t, hb_g_t, hb_g_nil, q_cl (show p < 2147483648 by omega), h74, eq1, eq2, nI_1, eq3, eq4, eq5]
      generalize hσ1 : hb_up (hb_up (hb_up σ 54 43 (nI ((fi + 1) % 52224))) 54 42 (nI (ln - 1))) 75 p 0 = σ1
      have m1 : mS σ σ1 := by rw [← hσ1]; exact (((mS.rf σ).upf _ (by omega)).upf _ (by omega)).up _ _ (by omega)
      have hR1 := mS_mR m1 hR
      have hB1 := mS_mL m1 (Or.inl rfl) hB
      have h691 : ∀ s, s < 4 → σ1 69 s = nI (pr s) := fun s hs => by rw [m1.1 69 (by omega) (by omega)]; exact h69 s hs
      obtain ⟨W1, hW1, hW1p⟩ : ∃ W1 : Nat → Bool, (∀ x, x ≠ p → W1 x = W x) ∧ W1 p = false := ⟨fun x => W x && !decide (x = p), fun x hx => by show (W x && !decide (x = p)) = W x; rw [decide_eq_false hx]; simp, by show (W p && !decide (p = p)) = false; simp⟩
      have hcd := cnt_del (f := W) e3 e2
      have hcW1 : cnt W1 17408 = ln - 1 := by
        have : cnt W1 17408 = cnt (fun x => W x && !decide (x = p)) 17408 := cnt_eq _ (fun x _ => by
          by_cases z : x = p
          · rw [z, hW1p]; simp
          · rw [hW1 x z, decide_eq_false z]; simp)
        omega
      have hQne : ∀ k, 0 < k → k < ln → Q k ≠ p := fun k h1 h2 z => by
        have := q5 k 0 h2 (by omega) (by rw [z, hp0])
        omega
      have hQ1 : rQ P pr bd st ((fi + 1) % 52224) (ln - 1) (fun k => Q (k + 1)) L S W1 σ1 := by
        refine ⟨⟨by rw [← hσ1, um_c _ _ _ (by omega), um_i _ _ _ (by omega), um_s], by omega, by rw [← hσ1, um_c _ _ _ (by omega), um_s]⟩, fun k hk => ?_, fun a b ha hb e => ?_, fun x hx h => ?_, hcW1.symm, fun x hx => ⟨?_, fun h => ?_⟩, fun x hx => by rw [← hσ1, um_c _ _ _ (by omega), um_c _ _ _ (by omega), um_c _ _ _ (by omega)]; exact q9 x hx, q10⟩
        · obtain ⟨a1, a2, a3⟩ := q4 (k + 1) (by omega)
          rw [← hσ1, um_c _ _ _ (by omega), um_c _ _ _ (by omega), um_c _ _ _ (by omega), show ((fi + 1) % 52224 + k) % 52224 = (fi + (k + 1)) % 52224 by omega]
          exact ⟨a1, a2, by rw [hW1 _ (hQne (k + 1) (by omega) (by omega))]; exact a3⟩
        · have := q5 (a + 1) (b + 1) (by omega) (by omega) e
          omega
        · have z : x ≠ p := fun z => by rw [z, hW1p] at h; cases h
          rw [hW1 x z] at h
          obtain ⟨k, hk, e⟩ := q6 x hx h
          have hk0 : k ≠ 0 := fun y => z (by rw [← e, y, hp0])
          exact ⟨k - 1, by omega, by show Q (k - 1 + 1) = x; rw [show k - 1 + 1 = k by omega]; exact e⟩
        · rw [← hσ1, um_at]
          by_cases z : x = p
          · rw [if_pos z, z, hW1p]; rfl
          · rw [if_neg z, um_c _ _ _ (by omega), um_c _ _ _ (by omega), hW1 x z]; exact (q8 x hx).1
        · have z : x ≠ p := fun z => by rw [z, hW1p] at h; cases h
          rw [hW1 x z] at h
          exact (q8 x hx).2 h
      have h146 := s146 hB1 (st := p % 1024) (by omega)
      have ebd : wAny B (p % 1024) B.1 = bd (p % 1024) := by rw [hbd]
      rw [ebd] at h146
      rw [h146, hb_ci_s]
      cases hb : bd (p % 1024) with
      | true =>
        rw [hbb_t, if_neg (by decide)]
        have nxt : ∀ (o1 : Option Nat) (u4 u5 : Value), (o1 = some (L p) ∨ (o1 = o ∧ ∃ K, o = some K ∧ K ≤ L p)) → (∀ K, o = some K → ∃ K', o1 = some K' ∧ K' ≤ K) →
            ∃ σ' o' v4' v5' v6' v7' v8', hb_run hbSH 165 (73, [.ref 54, .int x1, .int x2, .int (hbo (o1.map rf)), u4, u5, v6, v7, v8], [], σ1) = hb_run hbSH 165 (73, [.ref 54, .int x1, .int x2, .int (hbo (o'.map rf)), v4', v5', v6', v7', v8'], [], σ') ∧ mS σ σ' ∧ σ' 54 42 = 0 ∧ cSp P pr bd st o' ∧ ∀ K, o' = some K → vK K ∧ K < 300000000 := by
          intro o1 u4 u5 h1 h2
          obtain ⟨σ', o', w4, w5, w6, w7, w8, r1, r2, r3⟩ := ih ((fi + 1) % 52224) (ln - 1) σ1 _ L S W1 o1 u4 u5 v6 v7 v8 (by omega) hQ1 hR1 hB1 h691 hS hL (fun x hx hs hw => by
            by_cases z : x = p
            · refine ⟨fun _ => ?_, fun y => by rw [z, hb] at y; cases y⟩
              rw [z]
              rcases h1 with h1 | ⟨h1, K, h3, h4⟩
              · exact ⟨L p, h1, Nat.le_refl _⟩
              · exact ⟨K, by rw [h1]; exact h3, h4⟩
            · rw [hW1 x z] at hw
              obtain ⟨c1, c2⟩ := hC x hx hs hw
              refine ⟨fun y => ?_, c2⟩
              obtain ⟨K, e, hle⟩ := c1 y
              obtain ⟨K', e', hle'⟩ := h2 K e
              exact ⟨K', e', by omega⟩) (fun K e => by
            rcases h1 with h1 | ⟨h1, _⟩
            · rw [h1] at e; cases e
              exact ⟨k1, by omega, p, k3, hb⟩
            · rw [h1] at e; exact ho K e)
          exact ⟨σ', o', w4, w5, w6, w7, w8, r1, m1.tr r2, r3⟩
        cases o with
        | none =>
          rw [if_pos (show hbo (Option.map rf none) = (-1000000 : Int32) from rfl)]
          exact nxt (some (L p)) _ _ (Or.inl rfl) (fun K e => by cases e)
        | some K0 =>
          obtain ⟨c1, c2, _⟩ := ho K0 rfl
          have hr0 := rf_le K0
          rw [show hbo (Option.map rf (some K0)) = nI (rf K0) from rfl, if_neg (show ¬ nI (rf K0) = (-1000000 : Int32) from nno (by omega))]
          have hlt := rf_lt k1 c1
          by_cases hle : rf K0 ≤ rf (L p)
          · rw [if_pos (by rw [q_le (by omega) (by omega)]; exact hle)]
            exact nxt (some K0) _ _ (Or.inr ⟨rfl, K0, rfl, by omega⟩) (fun K e => ⟨K, e, Nat.le_refl _⟩)
          · rw [if_neg (by rw [q_le (by omega) (by omega)]; exact hle)]
            exact nxt (some (L p)) _ _ (Or.inl rfl) (fun K e => by cases e; exact ⟨L p, rfl, by omega⟩)
      | false =>
        rw [hbb_f, if_pos rfl, s152 hR1 e2, hb_ci_s]
        -- the place's edges
        have key : ∀ (σ2 : hbM) (ln2 : Nat) (Q2 L2 : Nat → Nat) (S2 W2 : Nat → Bool) (y6 : Int32) (u8 : Value), rQ P pr bd st ((fi + 1) % 52224) ln2 Q2 L2 S2 W2 σ2 → mS σ1 σ2 → rR L L2 S S2 W1 W2 → 2 * phi S2 L2 + ln2 ≤ 2 * phi S L + (ln - 1) → nS S ≤ nS S2 → (∀ q, gOn P p = some q → S2 q = true ∧ L2 q ≤ L p) →
            ∃ σ' o' v4' v5' v6' v7' v8', hb_run hbSH 165 (192, [.ref 54, .int x1, .int x2, .int (hbo (o.map rf)), .int (nI p), .int (nI (rf (L p))), .int y6, .int 0, u8], [], σ2) = hb_run hbSH 165 (73, [.ref 54, .int x1, .int x2, .int (hbo (o'.map rf)), v4', v5', v6', v7', v8'], [], σ') ∧ mS σ σ' ∧ σ' 54 42 = 0 ∧ cSp P pr bd st o' ∧ ∀ K, o' = some K → vK K ∧ K < 300000000 := by
          intro σ2 ln2 Q2 L2 S2 W2 y6 u8 b1 b2 b3 b4 b5 b6
          have m2 := m1.tr b2
          obtain ⟨σ3, ln3, Q3, L3, S3, W3, w4, w5, w6, w7, w8, c1, c2, c3, c4, c5, c6⟩ := s165_192 (F := F) hP hn hpr x1 x2 (hbo (o.map rf)) y6 e2 k1 k3 hb 4 0 σ2 ln2 Q2 L2 S2 W2 u8 (by omega) b1 (mS_mR m2 hR) (fun s hs => by rw [m2.1 69 (by omega) (by omega)]; exact h69 s hs) (by omega)
          have m3 := m2.tr c3
          have rr := b3.tr c4
          obtain ⟨s1, s2⟩ := rr.1 st hst hS
          obtain ⟨σ', o', u4, u5, u6, u7, u8', r1, r2, r3⟩ := ih ((fi + 1) % 52224) ln3 σ3 Q3 L3 S3 W3 o w4 w5 w6 w7 w8 (by omega) c2 (mS_mR m3 hR) (mS_mL m3 (Or.inl rfl) hB) (fun s hs => by rw [m3.1 69 (by omega) (by omega)]; exact h69 s hs) s1 (by omega) (fun x hx hs hw => by
            obtain ⟨x1', x2', x3'⟩ := rr.2 x hx hs hw
            by_cases z : x = p
            · subst z
              refine ⟨fun y => (by rw [hb] at y; cases y), fun _ q K' e => ?_⟩
              rw [x3'] at e
              rcases e with ⟨f1, f2⟩ | ⟨s, hs4, f1, f2⟩
              · obtain ⟨g1, g2⟩ := b6 q f1
                obtain ⟨g3, g4⟩ := c4.1 q (hP.1 _ _ hx f1) g1
                exact ⟨g3, by omega⟩
              · rw [f2]; exact c6 s q (by omega) hs4 f1
            · rw [hW1 x z] at x2'
              obtain ⟨y1, y2⟩ := hC x hx x1' x2'
              rw [x3']
              refine ⟨y1, fun yb q K' e => ?_⟩
              obtain ⟨g1, g2⟩ := y2 yb q K' e
              have hq := (Ed_ok hP hn hpr hx (q10 x hx x1').1 e).1
              obtain ⟨g3, g4⟩ := rr.1 q hq g1
              exact ⟨g3, by omega⟩) ho
          rw [show nI 0 = (0 : Int32) from rfl] at c1
          exact ⟨σ', o', u4, u5, u6, u7, u8', c1.trans r1, m3.tr r2, r3⟩
        cases hg : gOn P p with
        | none =>
          rw [if_pos (show hbo none = (-1000000 : Int32) from rfl)]
          exact key σ1 (ln - 1) _ L S W1 _ _ hQ1 (mS.rf σ1) (rR.rf L S W1) (Nat.le_refl _) (Nat.le_refl _) (fun q e => by rw [hg] at e; cases e)
        | some q =>
          have hq := hP.1 _ _ e2 hg
          obtain ⟨σ2, ln2, Q2, L2, S2, W2, a1, a2, a3, a4, a5, a6, a7⟩ := s164 hQ1 hq k1 (Wk_s k3 hb (Or.inl ⟨hg, rfl⟩)) (by omega)
          rw [if_neg (show ¬ hbo (some q) = (-1000000 : Int32) from nno (by omega)), show hbo (some q) = nI q from rfl, a1, hb_cv_s]
          exact key σ2 ln2 Q2 L2 S2 W2 _ _ a2 a3 a4 a6 a7 (fun q' e => by rw [hg] at e; cases e; exact a5)
end
