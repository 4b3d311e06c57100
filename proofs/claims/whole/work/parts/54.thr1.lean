/-! through: what both sides answer; the reference's queue -/
def gOk (P : hbGP) : Prop := (∀ p q, p < 17408 → gOn P p = some q → q < 17408) ∧ (∀ p k q, p < 17408 → gSl P p k = some q → q < 17408) ∧ ∀ i, i < P.1 → P.2.1 i < 6
theorem gI_ok {σ : hbM} (h : gI σ) : gOk (gP σ) := ⟨fun _ _ hp e => gOn_lt h hp e, fun _ _ _ hp e => gSl_lt h hp e, fun i hi => (q_nn (h.2.1 i hi).1 (by omega)).2⟩
noncomputable def bP (p : Prop) : Bool := @decide p (Classical.propDecidable p)
theorem bP_iff {p : Prop} : bP p = true ↔ p := by unfold bP; exact @decide_eq_true_iff p (Classical.propDecidable p)
theorem bP_eq {p : Prop} {b : Bool} (h : b = true ↔ p) : bP p = b := by
  rw [Bool.eq_iff_iff, bP_iff]; exact h.symm
theorem bool_eq {a b : Bool} (h : a = true ↔ b = true) : a = b := by rw [Bool.eq_iff_iff]; exact h
/-- steps on -/
def fw (on : Nat → Option Nat) : Nat → Nat → Option Nat
  | 0, p => some p
  | n + 1, p => match on p with
    | none => none
    | some q => fw on n q
def hang (on : Nat → Option Nat) (p : Nat) : Prop := ∀ n, fw on n p ≠ none
theorem hang_none {on : Nat → Option Nat} {p : Nat} (h : on p = none) : ¬ hang on p := fun q => q 1 (by simp only [fw, h])
theorem hang_some {on : Nat → Option Nat} {p q : Nat} (h : on p = some q) : hang on p ↔ hang on q := by
  constructor
  · intro hp n
    have := hp (n + 1)
    simp only [fw, h] at this
    exact this
  · intro hq n
    cases n with
    | zero => simp only [fw]; exact fun z => by cases z
    | succ n => simp only [fw, h]; exact hq n
theorem hang_closed {on : Nat → Option Nat} {V : Nat → Bool} (h : ∀ v, V v = true → ∃ w, on v = some w ∧ V w = true) : ∀ n p, V p = true → fw on n p ≠ none := by
  intro n
  induction n with
  | zero => intro p _; simp only [fw]; exact fun z => by cases z
  | succ n ih =>
    intro p hp
    obtain ⟨w, e, hw⟩ := h p hp
    simp only [fw, e]
    exact ih w hw
theorem hang_pigeon {on : Nat → Option Nat} {N : Nat} (hlt : ∀ p q, p < N → on p = some q → q < N) : ∀ (n : Nat) (V : Nat → Bool) (p : Nat), p < N → (∀ v, V v = true → ∃ w, on v = some w ∧ (V w = true ∨ w = p)) → N < cnt V N + n → fw on n p ≠ none → hang on p := by
  intro n
  induction n with
  | zero => intro V p _ _ h _; have := cnt_le V N; omega
  | succ n ih =>
    intro V p hp h1 h2 h3
    by_cases hV : V p = true
    · exact fun m => hang_closed (V := V) (fun v hv => by
        obtain ⟨w, e, hw⟩ := h1 v hv
        exact ⟨w, e, hw.elim id (fun q => by rw [q]; exact hV)⟩) m p hV
    · cases hn : on p with
      | none => simp only [fw, hn] at h3; exact absurd rfl h3
      | some q =>
        simp only [fw, hn] at h3
        rw [hang_some hn]
        have hc := cnt_set (f := V) (p := p) (by simpa using hV) N hp
        refine ih (fun x => V x || decide (x = p)) q (hlt p q hp hn) (fun v hv => ?_) (by omega) h3
        simp only [Bool.or_eq_true, decide_eq_true_eq] at hv ⊢
        rcases hv with hv | rfl
        · obtain ⟨w, e, hw⟩ := h1 v hv
          exact ⟨w, e, Or.inl hw⟩
        · exact ⟨q, hn, Or.inr rfl⟩
/-! counts over a row -/
theorem cnt_0 (f : Nat → Bool) : ∀ n, (∀ i, i < n → f i = false) → cnt f n = 0 := by
  intro n
  induction n with
  | zero => intro _; rfl
  | succ n ih => intro h; simp only [cnt]; rw [ih (fun i hi => h i (by omega)), h n (by omega)]; rfl
theorem cnt_s (f : Nat → Bool) (n : Nat) : cnt f (n + 1) = cnt f n + (if f n = true then 1 else 0) := rfl
theorem cnt_add (f : Nat → Bool) (a : Nat) : ∀ b, cnt f (a + b) = cnt f a + cnt (fun i => f (a + i)) b := by
  intro b
  induction b with
  | zero => rfl
  | succ b ih => rw [← Nat.add_assoc, cnt_s, cnt_s, ih]; omega
theorem cnt_not (f : Nat → Bool) : ∀ n, cnt f n + cnt (fun i => !f i) n = n := by
  intro n
  induction n with
  | zero => rfl
  | succ n ih =>
    rw [cnt_s, cnt_s]
    cases f n with
    | true => simp; omega
    | false => simp; omega
theorem cnt_spl (f g : Nat → Bool) : ∀ n, cnt (fun i => f i && g i) n + cnt (fun i => f i && !g i) n = cnt f n := by
  intro n
  induction n with
  | zero => rfl
  | succ n ih =>
    rw [cnt_s, cnt_s, cnt_s]
    cases f n <;> cases g n <;> simp <;> omega
theorem cnt_del {f : Nat → Bool} {p : Nat} (hp : f p = true) {N : Nat} (h : p < N) : cnt f N = cnt (fun x => f x && !decide (x = p)) N + 1 := by
  have h1 := cnt_set (f := fun x => f x && !decide (x = p)) (p := p) (by simp) N h
  rw [← h1]
  apply cnt_eq
  intro i _
  by_cases q : i = p
  · subst q; simp [hp]
  · simp [q]
theorem cnt_sur {g : Nat → Bool} {row : Nat → Nat} {N : Nat} : ∀ (n : Nat) (h : Nat → Bool), (∀ x, x < N → h x = true → ∃ k, k < n ∧ g k = true ∧ row k = x) → cnt h N ≤ cnt g n := by
  intro n
  induction n with
  | zero =>
    intro h hs
    rw [cnt_0 h N (fun i hi => by
      cases hh : h i with
      | false => rfl
      | true => obtain ⟨k, hk, _⟩ := hs i hi hh; omega)]
    exact Nat.zero_le _
  | succ n ih =>
    intro h hs
    rw [cnt_s]
    by_cases hc : g n = true ∧ row n < N ∧ h (row n) = true
    · rw [if_pos hc.1, cnt_del hc.2.2 hc.2.1]
      have := ih (fun x => h x && !decide (x = row n)) (fun x hx hh => by
        simp only [Bool.and_eq_true, Bool.not_eq_true', decide_eq_false_iff_not] at hh
        obtain ⟨k, hk, hg, hr⟩ := hs x hx hh.1
        refine ⟨k, ?_, hg, hr⟩
        rcases Nat.lt_succ_iff_lt_or_eq.mp hk with h1 | h1
        · exact h1
        · exact absurd (by rw [← hr, h1]) hh.2)
      omega
    · have := ih h (fun x hx hh => by
        obtain ⟨k, hk, hg, hr⟩ := hs x hx hh
        refine ⟨k, ?_, hg, hr⟩
        rcases Nat.lt_succ_iff_lt_or_eq.mp hk with h1 | h1
        · exact h1
        · exact absurd ⟨by rw [← h1]; exact hg, by rw [← h1, hr]; exact hx, by rw [← h1, hr]; exact hh⟩ hc)
      omega
/-- a row that holds a set, each once -/
theorem cnt_row {C : Nat → Bool} {row : Nat → Nat} {N n : Nat} (h2 : ∀ x, x < N → C x = true → ∃ k, k < n ∧ row k = x) (h3 : n = cnt C N) (f : Nat → Bool) : cnt (fun k => f (row k)) n = cnt (fun x => C x && f x) N := by
  have a1 := cnt_sur (g := fun k => f (row k)) (row := row) (N := N) n (fun x => C x && f x) (fun x hx hh => by
    simp only [Bool.and_eq_true] at hh
    obtain ⟨k, hk, hr⟩ := h2 x hx hh.1
    exact ⟨k, hk, by show f (row k) = true; rw [hr]; exact hh.2, hr⟩)
  have a2 := cnt_sur (g := fun k => !f (row k)) (row := row) (N := N) n (fun x => C x && !f x) (fun x hx hh => by
    simp only [Bool.and_eq_true] at hh
    obtain ⟨k, hk, hr⟩ := h2 x hx hh.1
    exact ⟨k, hk, by show (!f (row k)) = true; rw [hr]; exact hh.2, hr⟩)
  have a3 := cnt_not (fun k => f (row k)) n
  have a4 := cnt_spl C f N
  omega
/-! what is come to -/
noncomputable def tC (P : hbGP) (sl st x : Nat) : Bool := bP (Rch (tE P sl) (fun a => a = st) x)
noncomputable def tEnd (P : hbGP) (sl st s : Nat) : Bool := bP (∃ x, tC P sl st x = true ∧ gOn P (x % 17408) = none ∧ x % 1024 = s)
noncomputable def tHarm (P : hbGP) (bd : Nat → Bool) (sl st : Nat) : Bool := bP (∃ x, tC P sl st x = true ∧ bd (x % 1024) = true)
noncomputable def aThr (P : hbGP) (bd gd : Nat → Bool) (st sl w : Nat) : Int32 :=
  if w = 0 then nI (cnt (tC P sl st) 52224)
  else if w = 1 then hbb (tHarm P bd sl st)
  else if w = 2 then nI (cnt (tEnd P sl st) 1024)
  else if w = 3 then nI (cnt (fun s => tEnd P sl st s && gd s) 1024)
  else nI (cnt (fun x => tC P sl st x && bP (hang (gOn P) (x % 17408))) 52224)
theorem Rch_lt {P : hbGP} (hP : gOk P) {sl st x : Nat} (hs : st < 17408) (h : Rch (tE P sl) (fun a => a = st) x) : x < 17408 * (sl + 1) := by
  refine h (fun x => x < 17408 * (sl + 1)) (fun a ha => ?_) (fun a b ha e => ?_)
  · show a < _; have ha : a = st := ha; omega
  · show b < _
    have ha : a < 17408 * (sl + 1) := ha
    rcases e with ⟨q, e1, e2⟩ | ⟨h1, k, q, _, e1, e2⟩
    · have := hP.1 _ _ (by omega) e1
      omega
    · have := hP.2.1 _ _ _ (by omega) e1
      omega
/-- a closed set with the start that is all come to -/
theorem tC_of {P : hbGP} {sl st : Nat} {V : Nat → Bool} (h1 : V st = true) (h2 : ∀ a b, V a = true → tE P sl a b → V b = true) (h3 : ∀ a, V a = true → Rch (tE P sl) (fun a => a = st) a) : V = tC P sl st := by
  funext x
  unfold tC
  rw [bP_eq (b := V x) (Rch.of (S := fun a => a = st) (fun a ha => by rw [show a = st from ha]; exact h1) h2 h3 x)]
theorem s160_clear (x1 x2 : Int32) : ∀ (n i : Nat) (σ : hbM), i + n = 52224 → ∃ σ', hb_run hbSH 160 (2, [.ref 54, .int x1, .int x2, .int (nI i), .null, .null, .null, .null, .null], [], σ) = hb_run hbSH 160 (2, [.ref 54, .int x1, .int x2, .int (nI 52224), .null, .null, .null, .null, .null], [], σ') ∧ mS σ σ' ∧ (∀ k, i ≤ k → k < 52224 → σ' 70 k = 0) ∧ ∀ k, k < i → σ' 70 k = σ 70 k := by
  intro n
  induction n with
  | zero =>
    intro i σ hi
    obtain rfl : i = 52224 := by omega
    exact ⟨σ, rfl, mS.rf σ, fun k h1 h2 => by omega, fun _ _ => rfl⟩
  | succ n ih =>
    intro i σ hi
    obtain ⟨σ', k1, k2, k3, k4⟩ := ih (i + 1) (hb_up σ 70 i 0) (by omega)
    refine ⟨σ', ?_, ((mS.rf σ).up _ _ (by omega)).tr k2, fun k h1 h2 => ?_, fun k hk => ?_⟩
    · rw [e160_2, if_neg (by rw [q_52224, q_le (by omega) (by omega)]; omega), q_inT (by omega) (by omega), show hb_01 0 = true from rfl, hb_g_t, hb_g_t, hb_g_nil, nI_1, q_cl (by omega)]
      exact k1
    · by_cases q : k = i
      · rw [k4 k (by omega), q, um_s]
      · exact k3 k (by omega) h2
    · rw [k4 k (by omega), um_i _ _ _ (by omega)]
theorem s160_sl {P : hbGP} {F : hbF} (hP : gOk P) {x1 x3 x6 : Int32} {sl p m : Nat} (hsl : sl ≤ 2) (hm : m ≤ 2) (hp : p < 17408) : ∀ (j k : Nat) (σ : hbM) (n : Nat) (row : Nat → Nat) (C : Nat → Bool) (v8 : Value), k + j = 4 → mR σ P F → mQ σ n row C →
    ∃ w4 w5 w6 w7 w8 σ' n' row' C', hb_run hbSH 160 (96, [.ref 54, .int x1, .int (nI sl), .int x3, .int (nI p), .int (nI m), .int x6, .int (nI k), v8], [], σ) = hb_run hbSH 160 (33, [.ref 54, .int x1, .int (nI sl), .int (x3 + 1), w4, w5, w6, w7, w8], [], σ') ∧ mS σ σ' ∧ mQ σ' n' row' C' ∧ n ≤ n' ∧ (∀ k, k < n → row' k = row k) ∧ (∀ y, C y = true → C' y = true) ∧
      (∀ y, C' y = true → C y = true ∨ (m < sl ∧ ∃ s q, s < 4 ∧ gSl P p s = some q ∧ y = 17408 * (m + 1) + q)) ∧ ∀ s q, k ≤ s → s < 4 → m < sl → gSl P p s = some q → C' (17408 * (m + 1) + q) = true := by
  intro j
  induction j with
  | zero =>
    intro k σ n row C v8 hk hR hQ
    obtain rfl : k = 4 := by omega
    rw [e160_96, if_pos (by decide)]
    exact ⟨_, _, _, _, _, σ, n, row, C, rfl, mS.rf σ, hQ, Nat.le_refl _, fun _ _ => rfl, fun _ h => h, fun _ h => Or.inl h, fun s q h1 h2 => by omega⟩
  | succ j ih =>
    intro k σ n row C v8 hk hR hQ
    rw [e160_96, if_neg (by rw [q_4, q_le (by omega) (by omega)]; omega)]
    by_cases hms : m < sl
    · rw [if_neg (by rw [q_le (by omega) (by omega)]; omega), s153 hR hp (by omega), hb_ci_s]
      cases hg : gSl P p k with
      | none =>
        obtain ⟨w4, w5, w6, w7, w8, σ', n', row', C', r1, r2, r3, r4, r5, r6, r7, r8⟩ := ih (k + 1) σ n row C (.int (hbo none)) (by omega) hR hQ
        refine ⟨w4, w5, w6, w7, w8, σ', n', row', C', ?_, r2, r3, r4, r5, r6, r7, fun s q h1 h2 h3 h4 => ?_⟩
        · rw [if_pos (show hbo none = (-1000000 : Int32) from rfl), nI_1]; exact r1
        · by_cases z : s = k
          · rw [z, hg] at h4; cases h4
          · exact r8 s q (by omega) h2 h3 h4
      | some q =>
        have hq := hP.2.1 _ _ _ hp hg
        have ex : ((17408 : Int32) * (nI m + (1 : Int32))) + hbo (some q) = nI (17408 * (m + 1) + q) := by
          rw [nI_1, q_17408, q_mul, show hbo (some q) = nI q from rfl, q_add]
        obtain ⟨σ1, n1, row1, c1, c2, c3, c4, c5⟩ := s159 hQ (x := 17408 * (m + 1) + q) (by omega)
        obtain ⟨w4, w5, w6, w7, w8, σ', n', row', C', r1, r2, r3, r4, r5, r6, r7, r8⟩ := ih (k + 1) σ1 n1 row1 _ (.int (hbo (some q))) (by omega) (mS_mR c2 hR) c3
        refine ⟨w4, w5, w6, w7, w8, σ', n', row', C', ?_, c2.tr r2, r3, by omega, fun i hi => by rw [r5 i (by omega)]; exact c5 i hi, fun y hy => r6 y (by simp [hy]), fun y hy => ?_, fun s q' h1 h2 h3 h4 => ?_⟩
        · rw [if_neg (fun z => by rw [show hbo (some q) = nI q from rfl, q_no (by omega)] at z; exact z), ex, c1, hb_cv_s, nI_1]; exact r1
        · rcases r7 y hy with h | h
          · simp only [Bool.or_eq_true, decide_eq_true_eq] at h
            rcases h with h | h
            · exact Or.inl h
            · exact Or.inr ⟨hms, k, q, by omega, hg, h⟩
          · exact Or.inr h
        · by_cases z : s = k
          · rw [z, hg] at h4; cases h4
            exact r6 _ (by simp)
          · exact r8 s q' (by omega) h2 h3 h4
    · rw [if_pos (by rw [q_le (by omega) (by omega)]; omega)]
      exact ⟨_, _, _, _, _, σ, n, row, C, rfl, mS.rf σ, hQ, Nat.le_refl _, fun _ _ => rfl, fun _ h => h, fun _ h => Or.inl h, fun s q h1 h2 h3 => absurd h3 hms⟩
theorem s160_loop {P : hbGP} {F : hbF} (hP : gOk P) {x1 : Int32} {sl st : Nat} (hsl : sl ≤ 2) (hst : st < 1024) : ∀ (f i : Nat) (σ : hbM) (n : Nat) (row : Nat → Nat) (C : Nat → Bool) (w4 w5 w6 w7 w8 : Value), i + f = 52224 → i ≤ n → mR σ P F → mQ σ n row C → C st = true → (∀ y, C y = true → Rch (tE P sl) (fun a => a = st) y) → (∀ k, k < i → ∀ y, tE P sl (row k) y → C y = true) →
    ∃ σ' n' row', hb_run hbSH 160 (33, [.ref 54, .int x1, .int (nI sl), .int (nI i), w4, w5, w6, w7, w8], [], σ) = some (none, σ') ∧ mS σ σ' ∧ mQ σ' n' row' (tC P sl st) := by
  intro f
  induction f with
  | zero =>
    intro i σ n row C w4 w5 w6 w7 w8 hi hin hR hQ h1 h2 h3
    have hn : n ≤ 52224 := by rw [hQ.2.2.2.2]; exact cnt_le _ _
    have hni : n = i := by omega
    refine ⟨σ, n, row, ?_, mS.rf σ, ?_⟩
    · rw [e160_33, hQ.1, if_pos (by rw [q_le (by omega) (by omega)]; omega)]
    · rw [← tC_of h1 (fun a b ha e => by
        obtain ⟨k, hk, hr⟩ := hQ.2.2.2.1 a (by have := Rch_lt hP (by omega) (h2 a ha); omega) ha
        exact h3 k (by omega) b (by rw [hr]; exact e)) h2]
      exact hQ
  | succ f ih =>
    intro i σ n row C w4 w5 w6 w7 w8 hi hin hR hQ h1 h2 h3
    have hn : n ≤ 52224 := by rw [hQ.2.2.2.2]; exact cnt_le _ _
    by_cases hni : n ≤ i
    · refine ⟨σ, n, row, ?_, mS.rf σ, ?_⟩
      · rw [e160_33, hQ.1, if_pos (by rw [q_le (by omega) (by omega)]; omega)]
      · rw [← tC_of h1 (fun a b ha e => by
          obtain ⟨k, hk, hr⟩ := hQ.2.2.2.1 a (by have := Rch_lt hP (by omega) (h2 a ha); omega) ha
          exact h3 k (by omega) b (by rw [hr]; exact e)) h2]
        exact hQ
    · obtain ⟨a1, a2, a3⟩ := hQ.2.1 i (by omega)
      have hxl := Rch_lt hP (by omega) (h2 _ a3)
      generalize hx : row i = x at a1 a2 a3 hxl
      have d1 : decide (¬ (17408 : Int32) = 0) = true := by decide
      have eq1 : nI x / (17408 : Int32) = nI (x / 17408) := q_div (d := 17408) (by omega) (by omega) (by omega)
      have eq2 : nI x - nI (x / 17408) * (17408 : Int32) = nI (x % 17408) := q_rem (d := 17408) (by omega) (by omega) (by omega)
      have hin' : hb_in (nI i) 52224 = true := q_inT (by omega) (by omega)
      have key : ∀ (σ1 : hbM) (n1 : Nat) (row1 : Nat → Nat) (C1 : Nat → Bool) (y6 : Int32) (v8 : Value), mS σ σ1 → mQ σ1 n1 row1 C1 → n ≤ n1 → (∀ k, k < n → row1 k = row k) → (∀ y, C y = true → C1 y = true) → (∀ y, C1 y = true → Rch (tE P sl) (fun a => a = st) y) → (∀ q, gOn P (x % 17408) = some q → C1 (17408 * (x / 17408) + q) = true) →
          ∃ σ' n' row', hb_run hbSH 160 (96, [.ref 54, .int x1, .int (nI sl), .int (nI i), .int (nI (x % 17408)), .int (nI (x / 17408)), .int y6, .int 0, v8], [], σ1) = some (none, σ') ∧ mS σ σ' ∧ mQ σ' n' row' (tC P sl st) := by
        intro σ1 n1 row1 C1 y6 v8 b1 b2 b3 b4 b5 b6 b7
        obtain ⟨w4, w5, w6, w7, w8, σ2, n2, row2, C2, r1, r2, r3, r4, r5, r6, r7, r8⟩ := s160_sl (F := F) hP (x1 := x1) (x3 := nI i) (x6 := y6) (sl := sl) (p := x % 17408) (m := x / 17408) hsl (by omega) (by omega) 4 0 σ1 n1 row1 C1 v8 (by omega) (mS_mR b1 hR) b2
        rw [show nI 0 = (0 : Int32) from rfl, nI_1] at r1
        obtain ⟨σ3, n3, row3, s1, s2, s3⟩ := ih (i + 1) σ2 n2 row2 C2 w4 w5 w6 w7 w8 (by omega) (by omega) (mS_mR (b1.tr r2) hR) r3 (r6 _ (b5 _ h1)) (fun y hy => by
          rcases r7 y hy with h | ⟨g1, s, q, g2, g3, g4⟩
          · exact b6 y h
          · exact (h2 x a3).step (Or.inr ⟨g1, s, q, g2, g3, g4⟩)) (fun k hk y e => by
          rw [r5 k (by omega), b4 k (by omega)] at e
          by_cases hki : k = i
          · rw [hki, hx] at e
            rcases e with ⟨q, g1, g2⟩ | ⟨g1, s, q, g2, g3, g4⟩
            · rw [g2]; exact r6 _ (b7 q g1)
            · rw [g4]; exact r8 s q (by omega) g2 g1 g3
          · exact r6 y (b5 y (h3 k (by omega) y e)))
        exact ⟨σ3, n3, row3, r1.trans s1, (b1.tr r2).tr s2, s3⟩
      rw [e160_33, hQ.1, if_neg (by rw [q_le (by omega) (by omega)]; omega), hin', d1, hb_g_t, hb_g_t, hb_g_t, hb_g_t, hb_g_nil, q_cl (by omega), a1, eq1, eq2, s152 hR (by omega), hb_ci_s]
      cases hg : gOn P (x % 17408) with
      | none =>
        rw [if_pos (show hbo none = (-1000000 : Int32) from rfl)]
        exact key σ n row C _ _ (mS.rf σ) hQ (Nat.le_refl _) (fun _ _ => rfl) (fun _ h => h) h2 (fun q e => by rw [hg] at e; cases e)
      | some q =>
        have hq := hP.1 _ _ (by omega) hg
        have ex : ((17408 : Int32) * nI (x / 17408)) + hbo (some q) = nI (17408 * (x / 17408) + q) := by
          rw [q_17408, q_mul, show hbo (some q) = nI q from rfl, q_add]
        obtain ⟨σ1, n1, row1, c1, c2, c3, c4, c5⟩ := s159 hQ (x := 17408 * (x / 17408) + q) (by omega)
        rw [if_neg (fun z => by rw [show hbo (some q) = nI q from rfl, q_no (by omega)] at z; exact z), ex, c1, hb_cv_s]
        exact key σ1 n1 row1 _ _ _ c2 c3 c4 c5 (fun y hy => by simp [hy]) (fun y hy => by
          simp only [Bool.or_eq_true, decide_eq_true_eq] at hy
          rcases hy with hy | hy
          · exact h2 y hy
          · exact (h2 x a3).step (Or.inl ⟨q, hg, hy⟩)) (fun q' e => by rw [hg] at e; cases e; simp)
/-- goThrough -/
theorem s160 {σ : hbM} {P : hbGP} {F : hbF} (hR : mR σ P F) (hP : gOk P) {sl st : Nat} (hsl : sl ≤ 2) (hst : st < 1024) : ∃ σ' n row, hb_ev hbSH 160 [.ref 54, .int (nI st), .int (nI sl)] σ = some (none, σ') ∧ mS σ σ' ∧ mQ σ' n row (tC P sl st) := by
  obtain ⟨σ1, k1, k2, k3, k4⟩ := s160_clear (nI st) (nI sl) 52224 0 σ (by omega)
  have hQ : mQ (hb_up σ1 54 37 0) 0 (fun _ => 0) (fun _ => false) := ⟨um_s _ _ _ _, fun k hk => by omega, fun x hx => by rw [um_c _ _ _ (by omega)]; exact k3 x (by omega) hx, fun x _ h => (by cases h), (cnt_0 _ _ (fun _ _ => rfl)).symm⟩
  have m2 : mS σ (hb_up σ1 54 37 0) := k2.upf _ (by omega)
  obtain ⟨σ2, n2, row2, c1, c2, c3, c4, c5⟩ := s159 hQ (x := st) (by omega)
  obtain ⟨σ3, n3, row3, s1, s2, s3⟩ := s160_loop (F := F) hP (x1 := nI st) hsl hst 52224 0 σ2 n2 row2 _ .null .null .null .null .null (by omega) (by omega) (mS_mR (m2.tr c2) hR) c3 (by simp) (fun y hy => by
    simp at hy
    exact Rch.base hy) (fun k hk => by omega)
  refine ⟨σ3, n3, row3, ?_, (m2.tr c2).tr s2, s3⟩
  rw [v160, e160_0, show (0 : Int32) = nI 0 from rfl, k1, e160_2, if_pos (by decide), c1, hb_cv_s]
  exact s1
