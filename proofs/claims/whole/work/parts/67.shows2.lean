/-! shows: the class -/
theorem x1008 : ∀ x, x < 1024 → x &&& 1008 = x / 16 * 16 := by decide +kernel
theorem and1008 (a : Nat) : a &&& 1008 = a % 1024 / 16 * 16 := by
  have h1 : a &&& 1008 = (a % 1024) &&& 1008 := by
    have e2 : a &&& 1023 = a % 1024 := Nat.and_two_pow_sub_one_eq_mod a 10
    have e : a &&& (1023 &&& 1008) = (a &&& 1023) &&& 1008 := (Nat.and_assoc _ _ _).symm
    rw [e2] at e
    exact e
  rw [h1, x1008 _ (by omega)]
theorem xor1008 (a b : Nat) : (a ^^^ b) &&& 1008 = 0 ↔ a % 1024 / 16 = b % 1024 / 16 := by
  rw [Nat.and_xor_distrib_right, and1008, and1008]
  constructor
  · intro h
    have h2 := congrArg (fun z => z ^^^ (b % 1024 / 16 * 16)) h
    simp only [Nat.xor_assoc, Nat.xor_self, Nat.xor_zero, Nat.zero_xor] at h2
    omega
  · intro h
    rw [h, Nat.xor_self]
theorem s65_loop {P : hbGP} (hP : gOk P) {s k : Nat} (hk : k < 4) (x1 : Int32) {x2 : Int32} (pl : Bool) : ∀ (f i p : Nat) (a : Bool) (σ : hbM) (v6 v7 v8 : Value), i + f = 35 → p < 17408 → gI σ → gP σ = P → (if pl = true then x2 = -1000000 ∧ a = false else x2 = nI s ∧ s < 17 ∧ σ 49 8 = hbb a) →
    ∃ σ', hb_run hbSH 65 (6, [.ref 49, .int x1, .int x2, .int (nI k), .int (nI p), .int (nI i), v6, v7, v8], [], σ) = some (some (.int (nI (nt P s k f (p, a)).1.1)), σ') ∧ (∀ c, c ≠ 49 → σ' c = σ c) ∧ (pl = true → σ' = σ) ∧ (pl = false → σ' 49 8 = hbb (nt P s k f (p, a)).1.2) := by
  intro f
  induction f with
  | zero =>
    intro i p a σ v6 v7 v8 hi hp hg hP' hx
    obtain rfl : i = 35 := by omega
    refine ⟨σ, by rw [e65_6, if_pos (by decide)]; rfl, fun _ _ => rfl, fun _ => rfl, fun z => ?_⟩
    rw [z, if_neg (by decide)] at hx
    exact hx.2.2
  | succ f ih =>
    intro i p a σ v6 v7 v8 hi hp hg hP' hx
    have d1 : decide (¬ (1024 : Int32) = 0) = true := by decide
    have eq1 : nI p / (1024 : Int32) = nI (p / 1024) := q_div (d := 1024) (by omega) (by omega) (by omega)
    have h10 := s10 hg hp hk
    rw [hP'] at h10
    have h57 : ∃ v6' : Int32, hb_run hbSH 65 (6, [.ref 49, .int x1, .int x2, .int (nI k), .int (nI p), .int (nI i), v6, v7, v8], [], σ) = hb_run hbSH 65 (57, [.ref 49, .int x1, .int x2, .int (nI k), .int (nI p), .int (nI i), .int v6', v7, v8], [.int (hbo (if (a && decide (p / 1024 = s)) = true then gSl P p k else none))], σ) := by
      rw [e65_6, if_neg (by rw [q_35, q_le (by omega) (by omega)]; omega), d1, hb_g_t, hb_g_nil, eq1]
      cases pl with
      | true =>
        rw [if_pos rfl] at hx
        obtain ⟨hx1, hx2⟩ := hx
        rw [hx2, Bool.false_and, if_neg (show ¬ false = true by decide)]
        by_cases z : σ 49 8 = 0
        · rw [if_pos z]; exact ⟨0, rfl⟩
        · rw [if_neg z, if_pos (fun y => nno (a := p / 1024) (by omega) (by rw [← hx1]; exact y))]; exact ⟨0, rfl⟩
      | false =>
        rw [if_neg (by decide)] at hx
        obtain ⟨hx1, hx2, hx3⟩ := hx
        cases a with
        | false =>
          rw [hx3, Bool.false_and, if_neg (show ¬ false = true by decide), hbb_f, if_pos rfl]; exact ⟨0, rfl⟩
        | true =>
          rw [hx3, hbb_t, if_neg (by decide), Bool.true_and, hx1]
          by_cases z : p / 1024 = s
          · rw [decide_eq_true z, if_pos (show true = true from rfl), if_neg (fun y => y (by rw [z])), h10, hb_ci_s]; exact ⟨1, rfl⟩
          · rw [decide_eq_false z, if_neg (show ¬ false = true by decide), if_pos (fun y => z (by rw [q_eq (by omega) (by omega)] at y; exact y))]; exact ⟨0, rfl⟩
    obtain ⟨v6', h57⟩ := h57
    rw [h57, e65_57, s11 σ hk, hb_ci_s]
    cases hby : (if (a && decide (p / 1024 = s)) = true then gSl P p k else none) with
    | some q =>
      have hpl : pl = false := by
        cases pl with
        | false => rfl
        | true =>
          rw [if_pos rfl] at hx
          rw [hx.2, Bool.false_and, if_neg (by decide)] at hby
          cases hby
      subst hpl
      rw [if_neg (by decide)] at hx
      have hsl : gSl P p k = some q := by
        split at hby
        · exact hby
        · cases hby
      have hq := hP.2.1 _ _ _ hp hsl
      have hm : mvS P s k (p, a) = some ((q, false), decide (k = 1 ∨ k = 2)) := by
        unfold mvS
        rw [show (if ((p, a).2 && decide ((p, a).1 / 1024 = s)) = true then gSl P (p, a).1 k else none) = some q from hby]
      have hn : ¬ hbo (some q) = (-1000000 : Int32) := nno (by omega)
      have fr : ∀ c, c ≠ 49 → hb_up σ 49 8 0 c = σ c := fun c h => um_c _ _ _ h
      have hcS : cS σ (hb_up σ 49 8 0) := fun c hc => fr c (by omega)
      rw [if_pos hn, show hb_01 0 = true from rfl, hb_g_t, hb_g_nil, if_neg hn]
      cases hb : decide (k = 1 ∨ k = 2) with
      | true =>
        rw [hb] at hm
        rw [hbb_t, if_neg (by decide), if_pos hn, nt_t hm]
        exact ⟨_, rfl, fr, fun z => (by cases z), fun _ => um_s _ _ _ _⟩
      | false =>
        rw [hb] at hm
        rw [hbb_f, if_pos rfl, nt_f hm, nI_1]
        obtain ⟨σ', r1, r2, r3, r4⟩ := ih (i + 1) q false (hb_up σ 49 8 0) (.int v6') (.int (hbo (some q))) (.int 0) (by omega) hq (cS_gI hcS hg) ((cS_gP hcS).trans hP') (by rw [if_neg (by decide)]; exact ⟨hx.1, hx.2.1, um_s _ _ _ _⟩)
        exact ⟨σ', r1, fun c hc => (r2 c hc).trans (fr c hc), fun z => (by cases z), r4⟩
    | none =>
      rw [if_neg (fun z => z (show hbo none = (-1000000 : Int32) from rfl))]
      have h9 := s9 hg hp
      have h8 := s8 hg hp
      rw [hP'] at h9 h8
      rw [h9, hb_ci_s, h8, hb_ci_s]
      have hm0 : mvS P s k (p, a) = (match gOn P p with
          | none => none
          | some q => some ((q, a), gTk P p)) := by
        unfold mvS
        rw [show (if ((p, a).2 && decide ((p, a).1 / 1024 = s)) = true then gSl P (p, a).1 k else none) = none from hby]
        rfl
      have hflag : pl = false → σ 49 8 = hbb a := fun z => by
        rw [z, if_neg (by decide)] at hx; exact hx.2.2
      cases hg' : gOn P p with
      | none =>
        rw [hg'] at hm0
        rw [if_pos (show hbo none = (-1000000 : Int32) from rfl), if_neg (fun z => z (show hbo none = (-1000000 : Int32) from rfl)), nt_n hm0]
        exact ⟨σ, rfl, fun _ _ => rfl, fun _ => rfl, hflag⟩
      | some q =>
        rw [hg'] at hm0
        have hq := hP.1 _ _ hp hg'
        have hn : ¬ hbo (some q) = (-1000000 : Int32) := nno (by omega)
        rw [if_neg hn]
        cases hb : gTk P p with
        | true =>
          rw [hb] at hm0
          rw [hbb_t, if_neg (by decide), if_pos hn, nt_t hm0]
          exact ⟨σ, rfl, fun _ _ => rfl, fun _ => rfl, hflag⟩
        | false =>
          rw [hb] at hm0
          rw [hbb_f, if_pos rfl, nt_f hm0, nI_1]
          exact ih (i + 1) q a σ _ _ _ (by omega) hq hg hP' hx
/-- toNextTick -/
theorem s65 {P : hbGP} (hP : gOk P) {s k : Nat} (hk : k < 4) {x2 : Int32} (pl : Bool) {p : Nat} {a : Bool} {σ : hbM} (hp : p < 17408) (hg : gI σ) (hP' : gP σ = P) (hx : if pl = true then x2 = -1000000 ∧ a = false else x2 = nI s ∧ s < 17 ∧ σ 49 8 = hbb a) :
    ∃ σ', hb_ev hbSH 65 [.ref 49, .int (nI p), .int x2, .int (nI k)] σ = some (some (.int (nI (nt P s k 35 (p, a)).1.1)), σ') ∧ (∀ c, c ≠ 49 → σ' c = σ c) ∧ (pl = true → σ' = σ) ∧ (pl = false → σ' 49 8 = hbb (nt P s k 35 (p, a)).1.2) := by
  rw [v65, e65_0]
  exact s65_loop hP hk (nI p) pl 35 0 p a σ .null .null .null (by omega) hp hg hP' hx
theorem s64_loop {P : hbGP} (hP : gOk P) {st s k : Nat} (hst : st < 1024) (hs : s < 17) (hk : k < 4) : ∀ (f t : Nat) (σ : hbM), t + f = 50 → gI σ → gP σ = P → σ 49 8 = hbb (cz P s k t (st, true)).2 →
    ∃ σ', hb_run hbSH 64 (14, [.ref 49, .int (nI st), .int (nI s), .int (nI k), .int (nI (cz P 0 0 t (st, false)).1), .int (nI (cz P s k t (st, true)).1), .int (nI (t + 1))], [], σ) = some (some (.int (hbo (fdf (fun t => (cz P 0 0 t (st, false)).1 % 1024 / 16) (fun t => (cz P s k t (st, true)).1 % 1024 / 16) f (t + 1)))), σ') ∧ ∀ c, c ≠ 49 → σ' c = σ c := by
  intro f
  induction f with
  | zero =>
    intro t σ ht hg hP' h8
    obtain rfl : t = 50 := by omega
    exact ⟨σ, by rw [e64_14, if_pos (by decide)]; rfl, fun _ _ => rfl⟩
  | succ f ih =>
    intro t σ ht hg hP' h8
    have hA := cz_lt hP (s := 0) (k := 0) t (st, false) (show st < 17408 by omega)
    have hB := cz_lt hP (s := s) (k := k) t (st, true) (show st < 17408 by omega)
    have ha : (cz P 0 0 t (st, false)).2 = false := by
      cases t with
      | zero => rfl
      | succ t =>
        rw [cz_s]
        have : ∀ t, (cz P 0 0 t (st, false)).2 = false := by
          intro t
          induction t with
          | zero => rfl
          | succ t ih =>
            rw [cz_s]
            have e : cz P 0 0 t (st, false) = ((cz P 0 0 t (st, false)).1, false) := Prod.ext rfl ih
            rw [e]
            exact (nt_fa P 0 0 0 0 35 _).2
        have e : cz P 0 0 t (st, false) = ((cz P 0 0 t (st, false)).1, false) := Prod.ext rfl (this t)
        rw [e]
        exact (nt_fa P 0 0 0 0 35 _).2
    have eA : cz P 0 0 (t + 1) (st, false) = (nt P s k 35 ((cz P 0 0 t (st, false)).1, false)).1 := by
      rw [cz_s, ← (nt_fa P 0 0 s k 35 _).1, ← show cz P 0 0 t (st, false) = ((cz P 0 0 t (st, false)).1, false) from Prod.ext rfl ha]
    obtain ⟨σ1, a1, a2, a3, a4⟩ := s65 hP (s := s) hk (x2 := -1000000) true (p := (cz P 0 0 t (st, false)).1) (a := false) (σ := σ) hA hg hP' (by rw [if_pos rfl]; exact ⟨rfl, rfl⟩)
    have e1 : σ1 = σ := a3 rfl
    subst e1
    obtain ⟨σ2, b1, b2, b3, b4⟩ := s65 hP (s := s) hk (x2 := nI s) false (p := (cz P s k t (st, true)).1) (a := (cz P s k t (st, true)).2) (σ := σ1) hB hg hP' (by rw [if_neg (by decide)]; exact ⟨rfl, hs, h8⟩)
    rw [← eA] at a1
    rw [show ((cz P s k t (st, true)).1, (cz P s k t (st, true)).2) = cz P s k t (st, true) from rfl, ← cz_s] at b1 b4
    have hA' := cz_lt hP (s := 0) (k := 0) (t + 1) (st, false) (show st < 17408 by omega)
    have hB' := cz_lt hP (s := s) (k := k) (t + 1) (st, true) (show st < 17408 by omega)
    have hcS : cS σ1 σ2 := fun c hc => b2 c (by omega)
    have hle : ((cz P 0 0 (t + 1) (st, false)).1 ^^^ (cz P s k (t + 1) (st, true)).1) &&& 1008 ≤ 1008 := Nat.and_le_right
    have hcmp : (((nI (cz P 0 0 (t + 1) (st, false)).1 ^^^ nI (cz P s k (t + 1) (st, true)).1) &&& (1008 : Int32)) = 0) = ((cz P 0 0 (t + 1) (st, false)).1 % 1024 / 16 = (cz P s k (t + 1) (st, true)).1 % 1024 / 16) := by
      rw [q_xor, q_1008, q_and, q_0, q_eq (by omega) (by omega)]
      exact propext (xor1008 _ _)
    rw [e64_14, if_neg (by rw [q_50, q_lt (by omega) (by omega)]; omega), a1, hb_ci_s, b1, hb_ci_s]
    simp only [hcmp, fdf]
    by_cases z : (cz P 0 0 (t + 1) (st, false)).1 % 1024 / 16 = (cz P s k (t + 1) (st, true)).1 % 1024 / 16
    · rw [if_pos z, if_pos z, nI_1]
      obtain ⟨σ', r1, r2⟩ := ih (t + 1) σ2 (by omega) (cS_gI hcS hg) ((cS_gP hcS).trans hP') (b4 rfl)
      exact ⟨σ', r1, fun c hc => (r2 c hc).trans (b2 c hc)⟩
    · rw [if_neg z, if_neg z]
      exact ⟨σ2, rfl, b2⟩
/-- firstUnlike -/
theorem s64 {P : hbGP} (hP : gOk P) {st s k : Nat} (hst : st < 1024) (hs : s < 17) (hk : k < 4) {σ : hbM} (hg : gI σ) (hP' : gP σ = P) :
    ∃ σ', hb_ev hbSH 64 [.ref 49, .int (nI st), .int (nI s), .int (nI k)] σ = some (some (.int (hbo (fdf (fun t => (cz P 0 0 t (st, false)).1 % 1024 / 16) (fun t => (cz P s k t (st, true)).1 % 1024 / 16) 50 1))), σ') ∧ ∀ c, c ≠ 49 → σ' c = σ c := by
  have fr : ∀ c, c ≠ 49 → hb_up σ 49 8 1 c = σ c := fun c h => um_c _ _ _ h
  have hcS : cS σ (hb_up σ 49 8 1) := fun c hc => fr c (by omega)
  obtain ⟨σ', r1, r2⟩ := s64_loop hP hst hs hk 50 0 (hb_up σ 49 8 1) (by omega) (cS_gI hcS hg) ((cS_gP hcS).trans hP') (um_s _ _ _ _)
  refine ⟨σ', ?_, fun c hc => (r2 c hc).trans (fr c hc)⟩
  rw [v64, e64_0, show hb_01 1 = true from rfl, hb_g_t, hb_g_nil]
  exact r1
