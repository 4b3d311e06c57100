/-! tokens: the class splits -/
theorem s48 (σ : hbM) {b : Nat} (hb : b < 256) : hb_ev hbSH 48 [.int (nI b)] σ = some (some (.int (hbb (isL b))), σ) := by
  rw [v48, e48_0, q_97, q_122]
  unfold isL
  simp only [q_lt (show b < 2147483648 by omega) (show 97 < 2147483648 by omega), q_lt (show 122 < 2147483648 by omega) (show b < 2147483648 by omega)]
  by_cases h1 : b < 97
  · rw [if_pos h1, decide_eq_false (by omega)]; rfl
  · rw [if_neg h1]
    by_cases h2 : 122 < b
    · rw [if_pos h2, decide_eq_false (by omega)]; rfl
    · rw [if_neg h2, decide_eq_true (by omega)]; rfl
theorem s49 (σ : hbM) {b : Nat} (hb : b < 256) : hb_ev hbSH 49 [.int (nI b)] σ = some (some (.int (hbb (isF b))), σ) := by
  rw [v49, e49_0, q_48, q_57]
  unfold isF
  simp only [q_lt (show b < 2147483648 by omega) (show 48 < 2147483648 by omega), q_lt (show 57 < 2147483648 by omega) (show b < 2147483648 by omega)]
  by_cases h1 : b < 48
  · rw [if_pos h1, decide_eq_false (by omega)]; rfl
  · rw [if_neg h1]
    by_cases h2 : 57 < b
    · rw [if_pos h2, decide_eq_false (by omega)]; rfl
    · rw [if_neg h2, decide_eq_true (by omega)]; rfl
theorem wh_t {q : Nat → Bool} {n : Nat} (hn : n ≤ 400) (hq : ∀ x, q x = true → x < n) {i : Nat} (h : q i = true) : wh q 401 i = wh q 401 (i + 1) := by
  have hi := hq i h
  obtain ⟨a, b, c, d⟩ := wh_sp hq 401 (i + 1) (by omega) (by omega)
  refine wh_un a 401 i (by omega) (by omega) (fun x h1 h2 => ?_)
  by_cases z : x = i
  · rw [z]; exact h
  · exact d x (by omega) h2
theorem wh_f {q : Nat → Bool} {i : Nat} (h : q i = false) : wh q 401 i = i := wh_un h 401 i (Nat.le_refl _) (by omega) (fun x h1 h2 => by omega)
theorem nFL {b : Nat} (h : isL b = true) : isF b = false := by
  have := of_decide_eq_true h
  exact decide_eq_false (by omega)
theorem nLF {b : Nat} (h : isF b = true) : isL b = false := by
  have := of_decide_eq_true h
  exact decide_eq_false (by omega)
theorem nBL {b : Nat} (h : isB b = true) : isL b = false ∧ isF b = false := by
  have := of_decide_eq_true h
  exact ⟨decide_eq_false (by omega), decide_eq_false (by omega)⟩
def gsO (bt : Nat → Nat) (i : Nat) : Bool := if i = 0 then false else ((isL (bt (i - 1)) && isL (bt i)) || (isF (bt (i - 1)) && isF (bt i)))
theorem gsO_n {bt : Nat → Nat} {i : Nat} (h : gsO bt i = true) : isB (bt i) = false := by
  cases hB : isB (bt i) with
  | false => rfl
  | true =>
    obtain ⟨a, b⟩ := nBL hB
    unfold gsO at h
    rw [a, b, Bool.and_false, Bool.and_false] at h
    split at h <;> cases h
theorem gsO_b {bt : Nat → Nat} {i : Nat} (h : isB (bt i) = true) : gsO bt (i + 1) = false := by
  obtain ⟨a, b⟩ := nBL h
  unfold gsO
  rw [if_neg (by omega), Nat.add_sub_cancel, a, b]; rfl
/-- a token's end, by goesOn -/
theorem en_gs {bt : Nat → Nat} {n : Nat} (hn : n ≤ 400) {j : Nat} (hj : j < n) : (∀ x, j < x → x < enT bt n j → gsO bt x = true) ∧ (enT bt n j < n → gsO bt (enT bt n j) = false) := by
  have g : ∀ x, 0 < x → gsO bt x = ((isL (bt (x - 1)) && isL (bt x)) || (isF (bt (x - 1)) && isF (bt x))) := fun x hx => if_neg (by omega)
  cases hl : isL (bt j) with
  | true =>
    have ee : enT bt n j = wh (fun x => decide (x < n) && isL (bt x)) 401 (j + 1) := by unfold enT; rw [hl, if_pos rfl]
    obtain ⟨a, b, c, d⟩ := wh_sp (q := fun x => decide (x < n) && isL (bt x)) (n := n) (fun x h => by simp only [Bool.and_eq_true, decide_eq_true_eq] at h; exact h.1) 401 (j + 1) (by omega) (by omega)
    rw [← ee] at a b c d
    have al : ∀ x, j ≤ x → x < enT bt n j → isL (bt x) = true := fun x h1 h2 => by
      by_cases z : x = j
      · rw [z]; exact hl
      · have := d x (by omega) h2
        simp only [Bool.and_eq_true] at this
        exact this.2
    refine ⟨fun x h1 h2 => ?_, fun h => ?_⟩
    · rw [g x (by omega), al (x - 1) (by omega) (by omega), al x (by omega) h2]; rfl
    · have h1 := al (enT bt n j - 1) (by omega) (by omega)
      have h2 : isL (bt (enT bt n j)) = false := by
        have a' : (decide (enT bt n j < n) && isL (bt (enT bt n j))) = false := a
        rw [decide_eq_true h, Bool.true_and] at a'
        exact a'
      rw [g _ (by omega), h1, h2, nFL h1]; rfl
  | false =>
    cases hf : isF (bt j) with
    | true =>
      have ee : enT bt n j = wh (fun x => decide (x < n) && isF (bt x)) 401 (j + 1) := by unfold enT; rw [hl, if_neg (by decide), if_pos hf]
      obtain ⟨a, b, c, d⟩ := wh_sp (q := fun x => decide (x < n) && isF (bt x)) (n := n) (fun x h => by simp only [Bool.and_eq_true, decide_eq_true_eq] at h; exact h.1) 401 (j + 1) (by omega) (by omega)
      rw [← ee] at a b c d
      have al : ∀ x, j ≤ x → x < enT bt n j → isF (bt x) = true := fun x h1 h2 => by
        by_cases z : x = j
        · rw [z]; exact hf
        · have := d x (by omega) h2
          simp only [Bool.and_eq_true] at this
          exact this.2
      refine ⟨fun x h1 h2 => ?_, fun h => ?_⟩
      · rw [g x (by omega), al (x - 1) (by omega) (by omega), al x (by omega) h2, Bool.true_and, Bool.or_true]
      · have h1 := al (enT bt n j - 1) (by omega) (by omega)
        have h2 : isF (bt (enT bt n j)) = false := by
          have a' : (decide (enT bt n j < n) && isF (bt (enT bt n j))) = false := a
          rw [decide_eq_true h, Bool.true_and] at a'
          exact a'
        rw [g _ (by omega), h1, h2, nLF h1]; rfl
    | false =>
      have ee : enT bt n j = j + 1 := by unfold enT; rw [hl, if_neg (by decide), hf, if_neg (by decide)]
      rw [ee]
      refine ⟨fun x h1 h2 => by omega, fun h => ?_⟩
      rw [g _ (by omega), Nat.add_sub_cancel, hl, hf]; rfl
/-- the tape's bytes -/
def tpe (σ : hbM) (c : Nat) (bt : Nat → Nat) (n : Nat) : Prop := n ≤ 400 ∧ (∀ x, bt x < 256) ∧ ∀ i, i < n → σ c i = nI (bt i)
section
variable {bt : Nat → Nat} {n : Nat} {σ : hbM}
/-- goesOn: a byte is of the same name, or number, as the one ahead of it -/
theorem s199 (hT : tpe σ 40 bt n) {i : Nat} (hi : i < n) : hb_ev hbSH 199 [.ref 39, .int (nI i)] σ = some (some (.int (hbb (gsO bt i))), σ) := by
  obtain ⟨hn, h256, hb⟩ := hT
  rw [v199, e199_0]
  by_cases h0 : i = 0
  · subst h0
    rw [if_neg (fun z => z rfl)]; rfl
  · have e1 : nI i - (1 : Int32) = nI (i - 1) := by rw [q_1, q_sub (by omega)]
    have hg : gsO bt i = ((isL (bt (i - 1)) && isL (bt i)) || (isF (bt (i - 1)) && isF (bt i))) := if_neg h0
    have h1 := hb (i - 1) (by omega)
    have h2 := hb i hi
    have i1 : hb_in (nI (i - 1)) 400 = true := q_inT (by omega) (by omega)
    have i2 : hb_in (nI i) 400 = true := q_inT (by omega) (by omega)
    have c1 : (nI (i - 1)).toNatClampNeg = i - 1 := q_cl (by omega)
    have c2 : (nI i).toNatClampNeg = i := q_cl (by omega)
    rw [if_pos (show ¬ nI i = (0 : Int32) by rw [q_0, q_eq (by omega) (by omega)]; exact h0), hg, e1, i1, i2, c1, c2, hb_g_t, hb_g_nil, h1, s48 σ (h256 _), hb_ci_s]
    have fg : hb_g [true] (hb_ci (hb_ev hbSH 49 [.int (σ 40 (i - 1))] σ) (fun y50 σ50 => if (y50 = (0 : Int32)) then (some (some (.int 0), σ50)) else (hb_g [true] (hb_ci (hb_ev hbSH 49 [.int (σ50 40 i)] σ50) (fun y62 σ62 => if (y62 = (0 : Int32)) then (some (some (.int 0), σ62)) else (some (some (.int 1), σ62))))))) = some (some (.int (hbb (isF (bt (i - 1)) && isF (bt i)))), σ) := by
      rw [hb_g_t, hb_g_nil, h1, s49 σ (h256 _), hb_ci_s]
      cases hf : isF (bt (i - 1)) with
      | false => rw [hbb_f, if_pos rfl]; rfl
      | true =>
        rw [hbb_t, if_neg (show ¬ (1 : Int32) = 0 by decide), hb_g_t, hb_g_nil, h2, s49 σ (h256 _), hb_ci_s]
        cases hf2 : isF (bt i) with
        | false => rw [hbb_f, if_pos rfl]; rfl
        | true => rw [hbb_t, if_neg (show ¬ (1 : Int32) = 0 by decide)]; rfl
    cases hl : isL (bt (i - 1)) with
    | false =>
      rw [hbb_f, if_pos rfl, Bool.false_and, Bool.false_or]
      exact fg
    | true =>
      rw [hbb_t, if_neg (show ¬ (1 : Int32) = 0 by decide), hb_g_t, hb_g_nil, h2, s48 σ (h256 _), hb_ci_s]
      cases hl2 : isL (bt i) with
      | false =>
        rw [hbb_f, if_pos rfl, Bool.and_false, Bool.false_or]
        exact fg
      | true => rw [hbb_t, if_neg (show ¬ (1 : Int32) = 0 by decide)]; rfl
theorem s45_loop (hT : tpe σ 40 bt n) (h3 : σ 39 3 = nI n) (x1 : Int32) {j e : Nat} (he : e ≤ n) (hg : ∀ x, j < x → x < e → gsO bt x = true) (hz : e < n → gsO bt e = false) : ∀ (f i : Nat), i + f = e → j < i → hb_run hbSH 45 (4, [.ref 39, .int x1, .int (nI i)], [], σ) = some (some (.int (nI e)), σ) := by
  have hn := hT.1
  intro f
  induction f with
  | zero =>
    intro i hi hj
    have hie : i = e := by omega
    rw [e45_4, h3]
    by_cases hen : e = n
    · rw [if_pos (by rw [q_le (by omega) (by omega)]; omega), hie]
    · rw [if_neg (by rw [q_le (by omega) (by omega)]; omega), s199 hT (show i < n by omega), hb_ci_s, hie, hz (by omega), hbb_f, if_pos rfl]
  | succ f ih =>
    intro i hi hj
    rw [e45_4, h3, if_neg (by rw [q_le (by omega) (by omega)]; omega), s199 hT (show i < n by omega), hb_ci_s, hg i hj (by omega), hbb_t, if_neg (show ¬ (1 : Int32) = 0 by decide), nI_1]
    exact ih (i + 1) (by omega) (by omega)
/-- endOfToken -/
theorem s45 (hT : tpe σ 40 bt n) (h3 : σ 39 3 = nI n) {j : Nat} (hj : j < n) : hb_ev hbSH 45 [.ref 39, .int (nI j)] σ = some (some (.int (nI (enT bt n j))), σ) := by
  obtain ⟨a1, a2⟩ := en_gs (bt := bt) hT.1 hj
  obtain ⟨b1, b2⟩ := enT_sp (bt := bt) hT.1 hj
  rw [v45, e45_0, nI_1]
  exact s45_loop hT h3 (nI j) b2 a1 a2 (enT bt n j - (j + 1)) (j + 1) (by omega) (by omega)
theorem wn_ok : ∀ k, k < 68 → (Int32.toUInt32 ((hbW.getD k 0) &&& (255 : Int32)) % 65536).toInt32 = nI ((fl WS).getD k 0) ∧ (fl WS).getD k 0 < 128 := by decide +kernel
theorem nar_c {a : Nat} (ha : a < 128) : narrow .char (.int (nI a)) = .int (nI a) := by
  have : ∀ a, a < 128 → (((nI a).toUInt32 % 65536).toInt32) = nI a := by decide +kernel
  show Value.int _ = Value.int _
  exact congrArg Value.int (this a ha)
theorem s191 (σ : hbM) : hb_ev hbSH 191 [.ref 1000] σ = some (some (.int 68), σ) := by
  rw [v191, e191_0, v193, e193_0, if_pos (by rfl), hb_ci_s]
  rfl
theorem s192 (σ : hbM) {k : Nat} (hk : k < 68) : hb_ev hbSH 192 [.ref 1000, .int (nI k)] σ = some (some (.int (nI ((fl WS).getD k 0))), σ) := by
  obtain ⟨h1, h2⟩ := wn_ok k hk
  have h198 : hb_ev hbSH 198 [.int (nI k), .int 68, .retAddr 0] σ = some (some (.int (nI k)), σ) := by
    rw [v198, e198_0, if_neg (nI_pos (by omega)), if_pos (by rw [show (68 : Int32) = nI 68 from rfl, q_lt (by omega) (by omega)]; exact hk)]
  have h195 : hb_ev hbSH 195 [.int (nI k), .int 68] σ = some (none, σ) := by rw [v195, e195_0, h198, hb_ci_s]
  have h196 : hb_ev hbSH 196 [.ref 1001, .int (nI k)] σ = some (some (.int (nI ((fl WS).getD k 0))), σ) := by
    rw [v196, e196_0, h195, hb_cv_s, q_inT (by omega) hk, hb_g_t, hb_g_nil, q_cl (by omega), h1, if_pos (nar_c h2)]
  rw [v192, e192_0, v194, e194_0, hb_ci_s, if_neg (by decide), h196, hb_ci_s, if_pos (nar_c h2)]
/-- wordOf -/
theorem s47_loop (hT : tpe σ 40 bt n) {j e : Nat} (he : e ≤ n) : ∀ (l : List Nat) (k w i : Nat) (s : Bool), k + l.length = 68 → (∀ x, x < l.length → (fl WS).getD (k + x) 0 = l.getD x 0) → i ≤ j + k → j ≤ n → w ≤ k → hb_run hbSH 47 (11, [.ref 39, .int (nI j), .int (nI e), .int (nI w), .int (nI i), .int (hbb s), .int (nI k)], [], σ) = some (some (.int (nI (wl bt j e l w i s))), σ) := by
  obtain ⟨hn, h256, hb⟩ := hT
  intro l
  induction l with
  | nil =>
    intro k w i s hk _ _ _ _
    have hk' : k = 68 := by simpa using hk
    rw [e47_11, s191, hb_ci_s, hk', if_pos (by decide)]; rfl
  | cons c t ih =>
    intro k w i s hk hc hi hj hw
    simp only [List.length_cons] at hk hc
    have hck := hc 0 (by omega)
    rw [Nat.add_zero] at hck
    have hck : (fl WS).getD k 0 = c := hck
    have hc128 := (wn_ok k (by omega)).2
    rw [hck] at hc128
    have h192 := s192 σ (k := k) (by omega)
    rw [hck] at h192
    have hct : ∀ x, x < t.length → (fl WS).getD (k + 1 + x) 0 = t.getD x 0 := fun x hx => by
      have := hc (x + 1) (by omega)
      rw [show k + 1 + x = k + (x + 1) by omega]; exact this
    have e32 : (nI c = (32 : Int32)) = (c = 32) := q_eq (b := 32) (by omega) (by omega)
    rw [e47_11, s191, hb_ci_s, if_neg (by rw [show (68 : Int32) = nI 68 from rfl, q_le (by omega) (by omega)]; omega), h192, hb_ci_s]
    simp only [wl]
    by_cases h32 : c = 32
    · rw [if_pos (by rw [e32]; exact h32), if_pos h32]
      cases s with
      | false =>
        rw [hbb_f, if_pos rfl, nI_1, nI_1, Bool.false_and, if_neg (show ¬ false = true by decide)]
        exact ih (k + 1) (w + 1) j true (by omega) hct (by omega) hj (by omega)
      | true =>
        rw [hbb_t, if_neg (by decide), Bool.true_and]
        by_cases hie : i = e
        · rw [if_neg (fun z => z (by rw [hie])), decide_eq_true hie, if_pos rfl]
        · rw [if_pos (fun z => hie (by rw [q_eq (by omega) (by omega)] at z; exact z)), decide_eq_false hie, if_neg (show ¬ false = true by decide), nI_1, nI_1]
          exact ih (k + 1) (w + 1) j true (by omega) hct (by omega) hj (by omega)
    · rw [if_neg (by rw [e32]; exact h32), if_neg h32]
      have nx : ∀ b : Bool, b = (s && (decide (i < e) && decide (bt i = c))) → hb_run hbSH 47 (11, [.ref 39, .int (nI j), .int (nI e), .int (nI w), .int (nI i + 1), .int (hbb b), .int (nI k + 1)], [], σ) = some (some (.int (nI (wl bt j e t w (i + 1) (s && (decide (i < e) && decide (bt i = c)))))), σ) := fun b hb' => by
        rw [nI_1, nI_1, ← hb']
        exact ih (k + 1) w (i + 1) b (by omega) hct (by omega) hj (by omega)
      cases s with
      | false => rw [hbb_f, if_pos rfl]; exact nx false rfl
      | true =>
        rw [hbb_t, if_neg (by decide)]
        by_cases hie : i < e
        · have eb : (nI (bt i) = nI c) = (bt i = c) := q_eq (by have := h256 i; omega) (by omega)
          rw [if_neg (by rw [q_le (by omega) (by omega)]; omega), q_inT (by omega) (by omega), hb_g_t, hb_g_nil, q_cl (by omega), h192, hb_ci_s, hb i (by omega)]
          simp only [eb]
          by_cases hbc : bt i = c
          · rw [if_neg (fun z => z hbc)]
            exact nx true (by rw [decide_eq_true hie, decide_eq_true hbc]; rfl)
          · rw [if_pos hbc]
            exact nx false (by rw [decide_eq_true hie, decide_eq_false hbc]; rfl)
        · rw [if_pos (by rw [q_le (by omega) (by omega)]; omega)]
          exact nx false (by rw [decide_eq_false hie]; rfl)
theorem s47 (hT : tpe σ 40 bt n) {j e : Nat} (hj : j ≤ n) (he : e ≤ n) : hb_ev hbSH 47 [.ref 39, .int (nI j), .int (nI e)] σ = some (some (.int (nI (ffW bt j e WS 0))), σ) := by
  have := s47_loop hT (j := j) he (fl WS) 0 0 j true (by decide) (fun x _ => by rw [Nat.zero_add]) (by omega) hj (by omega)
  rw [v47, e47_0]
  rw [wl_f WS 0 (fun w hw c hc => by have := WS_c w hw c hc; omega)] at this
  exact this
/-- codeOf -/
theorem s46 (hT : tpe σ 40 bt n) {j e : Nat} (hj : j < n) (he : e ≤ n) (hje : j < e) (hF : isF (bt j) = true → ∀ x, j ≤ x → x < e → isF (bt x) = true) : hb_ev hbSH 46 [.ref 39, .int (nI j), .int (nI e)] σ = some (some (.int (nI (cOT bt j e))), σ) := by
  have hT0 := hT
  obtain ⟨hn, h256, hb⟩ := hT
  have hbj := h256 j
  rw [v46, e46_0, q_inT (by omega) (by omega), hb_g_t, hb_g_nil, q_cl (by omega), hb j hj, s48 σ hbj, hb_ci_s]
  unfold cOT
  cases hl : isL (bt j) with
  | true => rw [hbb_t, if_neg (by decide), s47 hT0 (by omega) he, hb_ci_s, if_pos rfl]
  | false =>
    rw [hbb_f, if_pos rfl, hb_g_t, hb_g_nil, hb j hj, s49 σ hbj, hb_ci_s, if_neg (show ¬ false = true by decide)]
    cases hf : isF (bt j) with
    | false =>
      rw [hbb_f, if_neg (fun z => z rfl), hb_g_t, hb_g_nil, hb j hj, if_neg (show ¬ false = true by decide)]
      have e59 : (nI (bt j) = (59 : Int32)) = (bt j = 59) := q_eq (b := 59) (by omega) (by omega)
      simp only [e59]
      by_cases z : bt j = 59
      · rw [if_neg (fun y => y z), if_pos z]; rfl
      · rw [if_pos z, if_neg z]; rfl
    | true =>
      have hd : ∀ x, j ≤ x → x < e → 48 ≤ bt x ∧ bt x ≤ 57 := fun x h1 h2 => of_decide_eq_true (hF hf x h1 h2)
      rw [hbb_t, if_pos (by decide), q_sub (by omega), if_pos rfl]
      by_cases h2 : e - j ≤ 2
      · rw [if_pos (by rw [q_2, q_le (by omega) (by omega)]; exact h2), if_neg (by omega)]
        have d0 := hd j (by omega) hje
        have s0 : (((10 : Int32) * 0) + nI (bt j)) - 48 = nI (bt j - 48) := by rw [show (10 : Int32) * 0 = nI 0 from rfl, q_add, q_48, q_sub (by omega), Nat.zero_add]
        rw [e46_65, if_neg (by rw [q_le (by omega) (by omega)]; omega), q_inT (by omega) (by omega), hb_g_t, hb_g_nil, q_cl (by omega), hb j hj, s0, nI_1, e46_65]
        unfold vaT
        by_cases h1 : e = j + 1
        · rw [if_pos (by rw [q_le (by omega) (by omega)]; omega), if_pos h1, q_100, q_add]
        · have d1 := hd (j + 1) (by omega) (by omega)
          have s1 : (((10 : Int32) * nI (bt j - 48)) + nI (bt (j + 1))) - 48 = nI (10 * (bt j - 48) + (bt (j + 1) - 48)) := by rw [q_10, q_mul, q_add, q_48, q_sub (by omega)]; congr 1; omega
          rw [if_neg (by rw [q_le (by omega) (by omega)]; omega), q_inT (by omega) (by omega), hb_g_t, hb_g_nil, q_cl (by omega), hb (j + 1) (by omega), s1, nI_1, e46_65, if_pos (by rw [q_le (by omega) (by omega)]; omega), if_neg h1, q_100, q_add]
      · rw [if_neg (by rw [q_2, q_le (by omega) (by omega)]; exact h2), if_pos (by omega)]; rfl
end
theorem enT_F {bt : Nat → Nat} {n : Nat} (hn : n ≤ 400) {j : Nat} (hj : j < n) (h : isF (bt j) = true) : ∀ x, j ≤ x → x < enT bt n j → isF (bt x) = true := by
  intro x h1 h2
  have hl : isL (bt j) = false := by
    cases z : isL (bt j) with
    | false => rfl
    | true => rw [nFL z] at h; cases h
  unfold enT at h2
  rw [hl, if_neg (by decide), if_pos h] at h2
  obtain ⟨a, b, c, d⟩ := wh_sp (q := fun x => decide (x < n) && isF (bt x)) (n := n) (fun x h => by simp only [Bool.and_eq_true, decide_eq_true_eq] at h; exact h.1) 401 (j + 1) (by omega) (by omega)
  by_cases z : x = j
  · rw [z]; exact h
  · have := d x (by omega) h2
    simp only [Bool.and_eq_true] at this
    exact this.2
theorem cOT_lt {bt : Nat → Nat} (h256 : ∀ x, bt x < 256) (j e : Nat) : cOT bt j e < 3000 := by
  unfold cOT vaT
  have h1 := h256 j
  have h2 := h256 (j + 1)
  split
  · rcases ffW_rg (bt := bt) (j := j) (e := e) WS 0 with h | h
    · omega
    · have : WS.length = 15 := rfl
      omega
  · split
    · split
      · omega
      · split <;> omega
    · split <;> omega
/-- split -/
theorem s44 {bt : Nat → Nat} {n : Nat} {σ : hbM} (hT : tpe σ 40 bt n) (h3 : σ 39 3 = nI n) : ∃ σ' m, hb_ev hbSH 44 [.ref 39] σ = some (none, σ') ∧ (∀ c, c ≠ 41 → c ≠ 42 → σ' c = σ c) ∧ m ≤ 400 ∧ tkS bt n m = n ∧ (∀ k, k < m → tkS bt n k < n) ∧ ∀ k, k ≤ m → σ' 41 k = nI (tkS bt n k) ∧ σ' 42 k = nI (tkD bt n k) := by
  obtain ⟨hn, h256, hb⟩ := id hT
  have key : ∀ (f i k e : Nat) (σ1 : hbM) (v3 : Value), n ≤ i + f → i ≤ e → e ≤ n → k ≤ i → (∀ x, i ≤ x → x < e → gsO bt x = true) → (e < n → gsO bt e = false) → skp bt n e = tkS bt n k → (∀ c, c ≠ 41 → c ≠ 42 → σ1 c = σ c) → (∀ t, t < k → tkS bt n t < n ∧ σ1 41 t = nI (tkS bt n t) ∧ σ1 42 t = nI (tkD bt n t)) →
      ∃ σ' m, hb_run hbSH 44 (4, [.ref 39, .int (nI k), .int (nI i), v3], [], σ1) = some (none, σ') ∧ (∀ c, c ≠ 41 → c ≠ 42 → σ' c = σ c) ∧ m ≤ 400 ∧ tkS bt n m = n ∧ (∀ k, k < m → tkS bt n k < n) ∧ ∀ k, k ≤ m → σ' 41 k = nI (tkS bt n k) ∧ σ' 42 k = nI (tkD bt n k) := by
    have fin : ∀ (i k e : Nat) (σ1 : hbM) (v3 : Value), i = n → i ≤ e → e ≤ n → k ≤ i → skp bt n e = tkS bt n k → (∀ c, c ≠ 41 → c ≠ 42 → σ1 c = σ c) → (∀ t, t < k → tkS bt n t < n ∧ σ1 41 t = nI (tkS bt n t) ∧ σ1 42 t = nI (tkD bt n t)) →
        ∃ σ' m, hb_run hbSH 44 (4, [.ref 39, .int (nI k), .int (nI i), v3], [], σ1) = some (none, σ') ∧ (∀ c, c ≠ 41 → c ≠ 42 → σ' c = σ c) ∧ m ≤ 400 ∧ tkS bt n m = n ∧ (∀ k, k < m → tkS bt n k < n) ∧ ∀ k, k ≤ m → σ' 41 k = nI (tkS bt n k) ∧ σ' 42 k = nI (tkD bt n k) := by
      intro i k e σ1 v3 hin hie hen hk hs hfr hd
      have hsk : tkS bt n k = n := by rw [← hs, show e = n by omega]; exact skp_n (fun z => by omega)
      have h39 : σ1 39 3 = nI n := by rw [hfr 39 (by omega) (by omega)]; exact h3
      refine ⟨hb_up (hb_up σ1 41 k (nI n)) 42 k 21, k, ?_, fun c a b => by rw [um_c _ _ _ b, um_c _ _ _ a]; exact hfr c a b, by omega, hsk, fun t ht => (hd t ht).1, fun t ht => ?_⟩
      · rw [e44_4, h39, if_pos (by rw [q_le (by omega) (by omega)]; omega), q_inT (by omega) (by omega), hb_g_t, hb_g_t, hb_g_nil, q_cl (by omega)]
      · rw [um_c _ _ _ (by omega), um_at, um_at, um_c _ _ _ (by omega)]
        by_cases z : t = k
        · rw [if_pos z, if_pos z, z, hsk]
          unfold tkD
          rw [hsk, if_neg (by omega)]; exact ⟨rfl, rfl⟩
        · rw [if_neg z, if_neg z]; exact (hd t (by omega)).2
    intro f
    induction f with
    | zero =>
      intro i k e σ1 v3 hf hie hen hk hg hz hs hfr hd
      exact fin i k e σ1 v3 (by omega) hie hen hk hs hfr hd
    | succ f ih =>
      intro i k e σ1 v3 hf hie hen hk hg hz hs hfr hd
      have h39 : σ1 39 3 = nI n := by rw [hfr 39 (by omega) (by omega)]; exact h3
      by_cases hin : i = n
      · exact fin i k e σ1 v3 hin hie hen hk hs hfr hd
      · have hil : i < n := by omega
        have h40 : σ1 40 i = nI (bt i) := by rw [hfr 40 (by omega) (by omega)]; exact hb i hil
        have hbi := h256 i
        have e32 : (nI (bt i) = (32 : Int32)) = (bt i = 32) := q_eq (b := 32) (by omega) (by omega)
        have e10 : (nI (bt i) = (10 : Int32)) = (bt i = 10) := q_eq (b := 10) (by omega) (by omega)
        have hT1 : tpe σ1 40 bt n := ⟨hn, h256, fun x hx => by rw [hfr 40 (by omega) (by omega)]; exact hb x hx⟩
        have h199 := s199 hT1 hil
        have nob : isB (bt i) = true → i = e := fun hB => by
          by_cases z : i = e
          · exact z
          · have := gsO_n (hg i (Nat.le_refl _) (by omega))
            rw [this] at hB; cases hB
        have bl : isB (bt i) = true → ∃ σ' m, hb_run hbSH 44 (4, [.ref 39, .int (nI k), .int (nI (i + 1)), .int 1], [], σ1) = some (none, σ') ∧ (∀ c, c ≠ 41 → c ≠ 42 → σ' c = σ c) ∧ m ≤ 400 ∧ tkS bt n m = n ∧ (∀ k, k < m → tkS bt n k < n) ∧ ∀ k, k ≤ m → σ' 41 k = nI (tkS bt n k) ∧ σ' 42 k = nI (tkD bt n k) := fun hB =>
          ih (i + 1) k (i + 1) σ1 _ (by omega) (Nat.le_refl _) (by omega) (by omega) (fun x h1 h2 => by omega) (fun _ => gsO_b hB) (by rw [← hs, ← nob hB]; exact (skp_b hn hil hB).symm) hfr hd
        rw [e44_4, h39, if_neg (show ¬ nI n ≤ nI i by rw [q_le (by omega) (by omega)]; omega), q_inT (show i < 2147483648 by omega) (show i < 400 by omega), hb_g_t, hb_g_nil, q_cl (show i < 2147483648 by omega), h40]
        simp only [e32, e10]
        by_cases z32 : bt i = 32
        · rw [if_pos z32, nI_1]
          exact bl (decide_eq_true (Or.inl z32))
        · rw [if_neg z32, hb_g_t, hb_g_nil]
          by_cases z10 : bt i = 10
          · rw [if_neg (fun y => y z10), nI_1]
            exact bl (decide_eq_true (Or.inr z10))
          · have hnb : isB (bt i) = false := decide_eq_false (fun z => z.elim z32 z10)
            rw [if_pos z10, h199, hb_ci_s]
            by_cases hlt : i < e
            · rw [hg i (Nat.le_refl _) hlt, hbb_t, if_pos (show ¬ (1 : Int32) = 0 by decide), nI_1]
              exact ih (i + 1) k e σ1 _ (by omega) (by omega) hen (by omega) (fun x h1 h2 => hg x (by omega) h2) hz hs hfr hd
            · have hei : e = i := by omega
              have hsi : tkS bt n k = i := by rw [← hs, hei]; exact skp_n (fun z => by rw [hnb] at z; cases z.2)
              obtain ⟨en1, en2⟩ := enT_sp (bt := bt) hn hil
              obtain ⟨eg1, eg2⟩ := en_gs (bt := bt) hn hil
              have hT2 : tpe (hb_up σ1 41 k (nI i)) 40 bt n := ⟨hn, h256, fun x hx => by rw [um_c _ _ _ (by omega), hfr 40 (by omega) (by omega)]; exact hb x hx⟩
              have h392 : (hb_up σ1 41 k (nI i)) 39 3 = nI n := by rw [um_c _ _ _ (by omega)]; exact h39
              have gf : gsO bt i = false := by rw [← hei]; exact hz (by omega)
              rw [gf, hbb_f, if_neg (fun y => y rfl), q_inT (show k < 2147483648 by omega) (show k < 401 by omega), hb_g_t, hb_g_nil, q_cl (show k < 2147483648 by omega), s45 hT2 h392 hil, hb_ci_s, s46 hT2 hil en2 en1 (enT_F hn hil), hb_ci_s, hb_g_t, hb_g_nil, nI_1, nI_1]
              refine ih (i + 1) (k + 1) (enT bt n i) _ _ (by omega) (by omega) en2 (by omega) (fun x h1 h2 => eg1 x (by omega) h2) eg2 ?_ (fun c a b => by rw [um_c _ _ _ b, um_c _ _ _ a]; exact hfr c a b) (fun t ht => ?_)
              · show _ = (if tkS bt n k < n then skp bt n (enT bt n (tkS bt n k)) else n)
                rw [hsi, if_pos hil]
              · rw [um_c _ _ _ (by omega), um_at, um_at, um_c _ _ _ (by omega)]
                by_cases z : t = k
                · rw [if_pos z, if_pos z, z, hsi]
                  refine ⟨hil, rfl, ?_⟩
                  unfold tkD
                  rw [hsi, if_pos hil]
                · rw [if_neg z, if_neg z]; exact hd t (by omega)
  rw [v44, e44_0]
  exact key n 0 0 0 σ .null (by omega) (by omega) (by omega) (by omega) (fun x h1 h2 => by omega) (fun _ => rfl) rfl (fun _ _ _ => rfl) (fun t ht => by omega)
