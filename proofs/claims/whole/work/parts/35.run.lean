/-! run: one run, by going on alone -/
/-- the class's walk: fuel, what was come to, the place, ticks, harm -/
def cw (on : Nat → Option Nat) (tk bd : Nat → Bool) : Nat → (Nat → Bool) → Nat → Nat → Bool → Option Nat × Nat × Bool
  | 0, _, _, t, h => (none, t, h)
  | n + 1, V, p, t, h => if V p = true then (none, t, h) else match on p with
    | none => (some (p % 1024), t + (if tk p = true then 1 else 0), h || bd (p % 1024))
    | some q => cw on tk bd n (fun x => V x || decide (x = p)) q (t + (if tk p = true then 1 else 0)) (h || bd (p % 1024))
/-- the reference's -/
def mw (on : Nat → Option Nat) (tk bd : Nat → Bool) : Nat → Nat → Nat → Bool → Option Nat × Nat × Bool
  | 0, _, t, h => (none, t, h)
  | n + 1, p, t, h => match on p with
    | none => (some (p % 1024), t, h || bd (p % 1024))
    | some q => mw on tk bd n q (t + (if tk p = true then 1 else 0)) (h || bd (p % 1024))
theorem mw_none {on : Nat → Option Nat} {tk bd : Nat → Bool} {p : Nat} (n t : Nat) (h : Bool) (e : on p = none) : mw on tk bd (n + 1) p t h = (some (p % 1024), t, h || bd (p % 1024)) := by simp only [mw, e]
theorem mw_some {on : Nat → Option Nat} {tk bd : Nat → Bool} {p q : Nat} (n t : Nat) (h : Bool) (e : on p = some q) : mw on tk bd (n + 1) p t h = mw on tk bd n q (t + (if tk p = true then 1 else 0)) (h || bd (p % 1024)) := by simp only [mw, e]
theorem mw_cyc {on : Nat → Option Nat} {tk bd : Nat → Bool} {V : Nat → Bool} {h : Bool} (h1 : ∀ v, V v = true → ∃ w, on v = some w ∧ V w = true) (h2 : ∀ v, V v = true → bd (v % 1024) = true → h = true) :
    ∀ n p t, V p = true → (mw on tk bd n p t h).1 = none ∧ (mw on tk bd n p t h).2.2 = h := by
  intro n
  induction n with
  | zero => intro p t _; exact ⟨rfl, rfl⟩
  | succ n ih =>
    intro p t hp
    obtain ⟨w, hw, hV⟩ := h1 p hp
    have hb : (h || bd (p % 1024)) = h := by
      cases hh : bd (p % 1024) with
      | false => simp
      | true => rw [h2 p hp hh]; rfl
    simp only [mw, hw, hb]
    exact ih w _ hV
theorem cw_mw {on : Nat → Option Nat} {tk bd : Nat → Bool} (htk : ∀ p, on p = none → tk p = false) : ∀ (n : Nat) (V : Nat → Bool) (p t : Nat) (h : Bool), (∀ v, V v = true → ∃ w, on v = some w ∧ (V w = true ∨ w = p)) → (∀ v, V v = true → bd (v % 1024) = true → h = true) →
    (cw on tk bd n V p t h).1 = (mw on tk bd n p t h).1 ∧ (cw on tk bd n V p t h).2.2 = (mw on tk bd n p t h).2.2 ∧ ((mw on tk bd n p t h).1 ≠ none → (cw on tk bd n V p t h).2.1 = (mw on tk bd n p t h).2.1) := by
  intro n
  induction n with
  | zero => intro V p t h _ _; exact ⟨rfl, rfl, fun _ => rfl⟩
  | succ n ih =>
    intro V p t h h1 h2
    by_cases hV : V p = true
    · have hc := mw_cyc (on := on) (tk := tk) (bd := bd) (V := V) (h := h) (fun v hv => by
        obtain ⟨w, e, hw⟩ := h1 v hv
        exact ⟨w, e, hw.elim id (fun q => by rw [q]; exact hV)⟩) h2 (n + 1) p t hV
      rw [hc.1, hc.2]
      simp only [cw, hV, if_true]
      exact ⟨trivial, trivial, fun q => absurd rfl q⟩
    · simp only [cw, hV, mw]
      cases hn : on p with
      | none =>
        simp [htk p hn]
      | some q =>
        refine ih _ q _ _ (fun v hv => ?_) (fun v hv hb => ?_)
        · simp only [Bool.or_eq_true, decide_eq_true_eq] at hv ⊢
          rcases hv with hv | rfl
          · obtain ⟨w, e, hw⟩ := h1 v hv
            exact ⟨w, e, Or.inl hw⟩
          · exact ⟨q, hn, Or.inr rfl⟩
        · simp only [Bool.or_eq_true, decide_eq_true_eq] at hv
          rcases hv with hv | rfl
          · rw [h2 v hv hb]; rfl
          · rw [hb]; simp
/-- where P's going on ends, nothing ticks -/
theorem gTk_end {P : hbGP} (ha : ∀ i, i < P.1 → P.2.1 i < 6) {p : Nat} (h : gOn P p = none) : gTk P p = false := by
  unfold gOn at h
  unfold gTk
  by_cases hk : p / 1024 < P.1
  · rw [if_pos hk] at h
    have h6 := ha _ hk
    split at h
    · cases h
    · split at h
      · cases h
      · split at h
        · split at h <;> cases h
        · rename_i a0 a1 a2
          rw [decide_eq_true hk, decide_eq_false (by omega), decide_eq_false a2]
          rfl
  · rw [decide_eq_false hk]; rfl
/-- the class's walk over its cells -/
theorem s63_loop {bd : Nat → Bool} (x1 : Int32) {r : Nat} {P : hbGP} : ∀ (n i p t : Nat) (h : Bool) (σ : hbM) (v5 : Value), i + n = 17408 → p < 17408 → t ≤ i → gI σ → gP σ = P → rI σ r → (∀ st, st < 1024 → σ 11 st = hbb (bd st)) → σ 49 5 = hbb h → σ 49 3 = hbNO →
    ∃ σ', hb_run hbSH 63 (25, [.ref 49, .int x1, .int (nI t), .int (nI p), .int (nI i), v5], [], σ) = some (none, σ') ∧ cW σ σ' ∧ rI σ' r ∧
      ∀ V : Nat → Bool, (∀ q, q < 17408 → V q = mk σ r q 0) → σ' 49 3 = hbo (cw (gOn P) (gTk P) bd n V p t h).1 ∧ σ' 49 5 = hbb (cw (gOn P) (gTk P) bd n V p t h).2.2 ∧ σ' 49 4 = (if (cw (gOn P) (gTk P) bd n V p t h).1 = none then hbNO else nI (cw (gOn P) (gTk P) bd n V p t h).2.1) := by
  intro n
  induction n with
  | zero =>
    intro i p t h σ v5 hi hp ht hg hP hr hB h5 h3
    obtain rfl : i = 17408 := by omega
    refine ⟨hb_up σ 49 4 hbNO, ?_, (cW.rf σ).up _ _ (by omega), hr.up _ _ (by omega), fun V hV => ⟨?_, ?_, ?_⟩⟩
    · rw [e63_25, if_pos (by decide), if_neg (fun q => q h3)]
    · rw [um_i _ _ _ (by omega)]; exact h3
    · rw [um_i _ _ _ (by omega)]; exact h5
    · rw [um_s]; rfl
  | succ n ih =>
    intro i p t h σ v5 hi hp ht hg hP hr hB h5 h3
    have hlt : i < 17408 := by omega
    have d1 : decide (¬ (1024 : Int32) = 0) = true := by decide
    have eq1 : nI p / (1024 : Int32) = nI (p / 1024) := q_div (d := 1024) (by omega) (by omega) (by omega)
    have eq2 : nI p - nI (p / 1024) * (1024 : Int32) = nI (p % 1024) := q_rem (d := 1024) (by omega) (by omega) (by omega)
    have hin : hb_in (nI (p % 1024)) 1024 = true := q_inT (by omega) (by omega)
    have h28 := s28 hr hp (l := 0) (by omega)
    rw [show nI 0 = (0 : Int32) from rfl] at h28
    rw [e63_25, if_neg (by rw [q_17408, q_le (by omega) (by omega)]; omega), if_neg (fun q => by rw [q_no (by omega)] at q; exact q), h28, hb_ci_s]
    have g1 := eE_cW σ r p 0
    have g2 := eE_rI (p := p) hr (l := 0) (by omega)
    cases hm : mk σ r p 0 with
    | true =>
      refine ⟨hb_up (eE σ r p 0) 49 4 hbNO, ?_, g1.up _ _ (by omega), g2.up _ _ (by omega), fun V hV => ?_⟩
      · rw [Bool.not_true, hbb_f, if_pos (by decide), if_neg (fun q => q (by rw [eE_o _ _ _ _ (by omega)]; exact h3))]
      · have hVp : V p = true := by rw [hV p hp]; exact hm
        simp only [cw, hVp, if_true]
        refine ⟨?_, ?_, ?_⟩
        · rw [um_i _ _ _ (by omega), eE_o _ _ _ _ (by omega)]; exact h3
        · rw [um_i _ _ _ (by omega), eE_o _ _ _ _ (by omega)]; exact h5
        · rw [um_s]
    | false =>
      rw [Bool.not_false, hbb_t, if_neg (by decide), d1, hb_g_t, hb_g_nil, eq1, eq2, hin, hb_g_t, hb_g_nil, q_cl (by omega), eE_o _ _ _ _ (by omega), eE_o _ _ _ _ (by omega), h5, hB _ (by omega)]
      have step : ∀ b : Bool, b = (h || bd (p % 1024)) → ∃ σ', hb_run hbSH 63 (84, [.ref 49, .int x1, .int (nI t), .int (nI p), .int (nI i), .int (nI (p % 1024))], [.int (hbb b), .ref 49], eE σ r p 0) = some (none, σ') ∧ cW σ σ' ∧ rI σ' r ∧
          ∀ V : Nat → Bool, (∀ q, q < 17408 → V q = mk σ r q 0) → σ' 49 3 = hbo (cw (gOn P) (gTk P) bd (n + 1) V p t h).1 ∧ σ' 49 5 = hbb (cw (gOn P) (gTk P) bd (n + 1) V p t h).2.2 ∧ σ' 49 4 = (if (cw (gOn P) (gTk P) bd (n + 1) V p t h).1 = none then hbNO else nI (cw (gOn P) (gTk P) bd (n + 1) V p t h).2.1) := by
        intro b hb
        have c1 : cW σ (hb_up (eE σ r p 0) 49 5 (hbb b)) := g1.up _ _ (by omega)
        have i1 := cS_gI c1.cS hg
        have p1 := (cS_gP c1.cS).trans hP
        have r1 : rI (hb_up (eE σ r p 0) 49 5 (hbb b)) r := g2.up _ _ (by omega)
        rw [e63_84, hbb_01, hb_g_t, hb_g_nil, s9 i1 hp, hb_ci_s, s111 hbSH1, hb_ci_s, s8 i1 hp, hb_ci_s, p1]
        have et : nI t + hbb (gTk P p) = nI (t + (if gTk P p = true then 1 else 0)) := by rw [hbb_n, q_add]
        rw [et, nI_1]
        have ht' : t + (if gTk P p = true then 1 else 0) ≤ i + 1 := by split <;> omega
        cases hn : gOn P p with
        | none =>
          have e3 : hb_up (hb_up (eE σ r p 0) 49 5 (hbb b)) 49 3 (nI (p % 1024)) 49 3 = nI (p % 1024) := um_s _ _ _ _
          refine ⟨hb_up (hb_up (hb_up (eE σ r p 0) 49 5 (hbb b)) 49 3 (nI (p % 1024))) 49 4 (nI (t + (if gTk P p = true then 1 else 0))), ?_, (c1.up _ _ (by omega)).up _ _ (by omega), (r1.up _ _ (by omega)).up _ _ (by omega), fun V hV => ?_⟩
          · have hne : ¬ nI (p % 1024) = (-1000000 : Int32) := fun q => by rw [q_no (by omega)] at q; exact q
            rw [if_neg (fun q => q rfl), e63_25]
            by_cases hi2 : (17408 : Int32) ≤ nI (i + 1)
            · rw [if_pos hi2, e3, if_pos hne]
            · rw [if_neg hi2, if_pos (show hbo none = (-1000000 : Int32) from rfl), e3, if_pos hne]
          · have hVp : ¬ V p = true := by rw [hV p hp, hm]; decide
            simp only [cw, hVp, hn]
            refine ⟨?_, ?_, ?_⟩
            · rw [um_i _ _ _ (by omega), um_s]; rfl
            · rw [um_i _ _ _ (by omega), um_i _ _ _ (by omega), um_s, hb]; rfl
            · rw [um_s]; rfl
        | some q =>
          have hq : q < 17408 := by
            have := gOn_lt hg hp (q := q) (by rw [hP]; exact hn)
            exact this
          have c2 : cW σ (hb_up (hb_up (eE σ r p 0) 49 5 (hbb b)) 49 3 hbNO) := c1.up _ _ (by omega)
          obtain ⟨σ', k1, k2, k3, k4⟩ := ih (i + 1) q (t + (if gTk P p = true then 1 else 0)) b (hb_up (hb_up (eE σ r p 0) 49 5 (hbb b)) 49 3 hbNO) (.int (nI (p % 1024))) (by omega) hq ht' (cS_gI c2.cS hg) ((cS_gP c2.cS).trans hP) (r1.up _ _ (by omega))
            (fun st hs => by rw [c2 11 (by omega)]; exact hB st hs) (by rw [um_i _ _ _ (by omega), um_s]) (um_s _ _ _ _)
          refine ⟨σ', ?_, c2.tr k2, k3, fun V hV => ?_⟩
          · rw [if_pos (fun q2 => by rw [show hbo (some q) = nI q from rfl, q_no (by omega)] at q2; exact q2)]
            exact k1
          · have hVp : ¬ V p = true := by rw [hV p hp, hm]; decide
            have k5 := k4 (fun x => V x || decide (x = p)) (fun x hx => by
              rw [mk.up _ _ _ _ _ _ (by omega), mk.up _ _ _ _ _ _ (by omega), eE_mk hr hp (by omega) (by omega), ← hV x hx]
              simp)
            simp only [cw, hVp, hn]
            rw [← hb]
            exact k5
      cases h with
      | true => rw [if_pos (by decide)]; exact step true rfl
      | false =>
        rw [if_neg (by decide)]
        cases hb : bd (p % 1024) with
        | false => rw [if_pos (by decide)]; exact step false (by rw [hb]; rfl)
        | true => rw [if_neg (by decide)]; exact step true (by rw [hb]; rfl)

/-- walk -/
theorem s63 {bd : Nat → Bool} {σ : hbM} {r st : Nat} (hg : gI σ) (hr : rI σ r) (hr2 : r + 1 < 100000000) (hB : ∀ st, st < 1024 → σ 11 st = hbb (bd st)) (hs : st < 1024) :
    ∃ σ', hb_ev hbSH 63 [.ref 49, .int (nI st)] σ = some (none, σ') ∧ cW σ σ' ∧ rI σ' (r + 1) ∧ σ' 49 3 = hbo (mw (gOn (gP σ)) (gTk (gP σ)) bd 17408 st 0 false).1 ∧ σ' 49 5 = hbb (mw (gOn (gP σ)) (gTk (gP σ)) bd 17408 st 0 false).2.2 ∧
      σ' 49 4 = (if (mw (gOn (gP σ)) (gTk (gP σ)) bd 17408 st 0 false).1 = none then hbNO else nI (mw (gOn (gP σ)) (gTk (gP σ)) bd 17408 st 0 false).2.1) := by
  obtain ⟨b1, b2, b3⟩ := s27 hr hr2
  have c1 : cW σ (hb_up (hb_up (hb_up σ 44 4 (nI (r + 1))) 49 5 0) 49 3 (-1000000)) := (((cW.rf σ).up _ _ (by omega)).up _ _ (by omega)).up _ _ (by omega)
  obtain ⟨σ', k1, k2, k3, k4⟩ := s63_loop (bd := bd) (P := gP σ) (r := r + 1) (nI st) 17408 0 st 0 false _ .null (by omega) (by omega) (by omega) (cS_gI c1.cS hg) (cS_gP c1.cS) ((b2.up _ _ (by omega)).up _ _ (by omega)) (fun st hs => by rw [c1 11 (by omega)]; exact hB st hs) (by rw [um_i _ _ _ (by omega), um_s]; rfl) (um_s _ _ _ _)
  refine ⟨σ', ?_, c1.tr k2, k3, ?_⟩
  · rw [v63, e63_0, b1, hb_cv_s, show hb_01 0 = true from rfl, hb_g_t, hb_g_nil]
    exact k1
  · have k5 := k4 (fun _ => false) (fun q hq => by rw [mk.up _ _ _ _ _ _ (by omega), mk.up _ _ _ _ _ _ (by omega), b3 q 0 hq])
    obtain ⟨m1, m2, m3⟩ := cw_mw (on := gOn (gP σ)) (tk := gTk (gP σ)) (bd := bd) (fun p hp => gTk_end (fun i hi => (q_nn (hg.2.1 i hi).1 (by omega)).2) hp) 17408 (fun _ => false) st 0 false (fun v hv => by cases hv) (fun v hv => by cases hv)
    rw [m1, m2] at k5
    refine ⟨k5.1, k5.2.1, ?_⟩
    rw [k5.2.2]
    by_cases hn : (mw (gOn (gP σ)) (gTk (gP σ)) bd 17408 st 0 false).1 = none
    · rw [if_pos hn, if_pos hn]
    · rw [if_neg hn, if_neg hn, m3 hn]
/-- what run answers -/
def aRun (P : hbGP) (bd : Nat → Bool) (st what : Nat) : Int32 :=
  if what = 0 then hbo (mw (gOn P) (gTk P) bd 17408 st 0 false).1
  else if what = 1 then (if (mw (gOn P) (gTk P) bd 17408 st 0 false).1 = none then hbNO else nI (mw (gOn P) (gTk P) bd 17408 st 0 false).2.1)
  else hbb (mw (gOn P) (gTk P) bd 17408 st 0 false).2.2
theorem s93 {bd : Nat → Bool} {σ : hbM} {r : Nat} (hg : gI σ) (hr : rI σ r) (hr2 : r + 1 < 100000000) (hB : ∀ st, st < 1024 → σ 11 st = hbb (bd st)) (x y : Int32) :
    ∃ σ' r', hb_ev hbSH 93 [.ref 13, .int x, .int y] σ = some (some (.int (if hb_in x 1024 = true ∧ hb_in y 3 = true then aRun (gP σ) bd x.toNatClampNeg y.toNatClampNeg else -1000001)), σ') ∧ cW σ σ' ∧ rI σ' r' ∧ r ≤ r' ∧ r' ≤ r + 1 := by
  rw [v93, e93_0, s109, hb_ci_s, s110 hbSH1, hb_ci_s, show (1024 : Int32) = nI 1024 from rfl, show (3 : Int32) = nI 3 from rfl, q_dec _ _ (by omega), q_dec _ _ (by omega)]
  cases hx : hb_in x 1024 with
  | false => exact ⟨σ, r, by rw [hbb_f, if_pos rfl, if_neg (fun q => by cases q.1)], cW.rf σ, hr, by omega, by omega⟩
  | true =>
    cases hy : hb_in y 3 with
    | false => exact ⟨σ, r, by rw [hbb_t, hbb_f, if_neg (by decide), if_neg (fun q => q rfl), if_neg (fun q => by cases q.2)], cW.rf σ, hr, by omega, by omega⟩
    | true =>
      obtain ⟨st, hs, rfl⟩ := q_in_of hx
      obtain ⟨w, hw, rfl⟩ := q_in_of hy
      obtain ⟨σ', k1, k2, k3, k4, k5, k6⟩ := s63 hg hr hr2 hB hs
      refine ⟨σ', r + 1, ?_, k2, k3, by omega, by omega⟩
      have ea : aRun (gP σ) bd st w = (if w = 0 then hbo (mw (gOn (gP σ)) (gTk (gP σ)) bd 17408 st 0 false).1
        else if w = 1 then (if (mw (gOn (gP σ)) (gTk (gP σ)) bd 17408 st 0 false).1 = none then hbNO else nI (mw (gOn (gP σ)) (gTk (gP σ)) bd 17408 st 0 false).2.1)
        else hbb (mw (gOn (gP σ)) (gTk (gP σ)) bd 17408 st 0 false).2.2) := by unfold aRun; exact Eq.refl _
      rw [hbb_t, if_neg (by decide), if_pos (by decide), k1, hb_cv_s, q_cl (by omega), q_cl (by omega), if_pos (And.intro (Eq.refl true) (Eq.refl true)), ea]
      clear ea k1
      generalize mw (gOn (gP σ)) (gTk (gP σ)) bd 17408 st 0 false = M at k4 k5 k6 ⊢
      rcases (show w = 0 ∨ w = 1 ∨ w = 2 by omega) with rfl | rfl | rfl
      · rw [if_pos (by decide), if_neg (by decide), k4]; rfl
      · rw [if_pos (by decide), if_pos (by decide), k6]; rfl
      · rw [if_neg (by decide), k5, s111 hbSH1, hb_ci_s]; rfl
/-! the reference's run -/
theorem s112 (σ : hbM) (a b c : Int64) : hb_ev hbSH 112 [.long a, .long b, .long c] σ = some (some (.int (hbb (decide (b ≤ a ∧ a ≤ c)))), σ) := by
  rw [v112, e112_0]
  have h1 : (lg_cmp a b < 0) ↔ ¬ b ≤ a := by rw [lg_cmp_lt, Int64.lt_iff_toInt_lt, Int64.le_iff_toInt_le]; omega
  have h2 : (0 < lg_cmp a c) ↔ ¬ a ≤ c := by rw [lg_cmp_gt, Int64.lt_iff_toInt_lt, Int64.le_iff_toInt_le]; omega
  by_cases x : b ≤ a <;> by_cases y : a ≤ c <;> simp [h1, h2, x, y, hbb]
theorem q_in_iff (x : Int32) (n : Nat) : hb_in x n = true ↔ 0 ≤ x.toInt ∧ x.toInt < n := by
  constructor
  · intro h
    have := vp_in_iff.mp (fun q => by
      unfold hb_in at h
      simp only [Bool.not_eq_true', Bool.or_eq_false_iff, decide_eq_false_iff_not] at h
      exact q.elim h.1 h.2 : vp_in x n)
    exact this
  · intro h
    have := vp_in_iff.mpr h
    unfold hb_in
    simp only [Bool.not_eq_true', Bool.or_eq_false_iff, decide_eq_false_iff_not]
    exact ⟨fun q => this (Or.inl q), fun q => this (Or.inr q)⟩
theorem q_long (x : Int32) {hi : Int64} (n : Nat) (hh : hi.toInt = (n : Int) - 1) : decide ((0 : Int64) ≤ x.toInt64 ∧ x.toInt64 ≤ hi) = hb_in x n := by
  rw [Bool.eq_iff_iff, decide_eq_true_eq, q_in_iff, Int64.le_iff_toInt_le, Int64.le_iff_toInt_le, Int32.toInt_toInt64, hh, show (0 : Int64).toInt = 0 from rfl]
  omega
theorem s136 (σ : hbM) (x : Int32) : hb_ev hbSH 136 [.int x] σ = some (some (.int (hbb (hb_in x 1024))), σ) := by
  rw [v136, e136_0, s112, hb_ci_s, q_long x 1024 (by decide), hbb_01]; rfl
/-- only the reference's own search cells, and 'thrown', have changed -/
def mS (σ σ' : hbM) : Prop := (∀ c, c ≠ 54 → (c < 70 ∨ 78 < c) → σ' c = σ c) ∧ ∀ i, i ≠ 0 → i ≠ 37 → i ≠ 42 → i ≠ 43 → σ' 54 i = σ 54 i
theorem mS.rf (σ : hbM) : mS σ σ := ⟨fun _ _ _ => rfl, fun _ _ _ _ _ => rfl⟩
theorem mS.tr {a b c : hbM} (h1 : mS a b) (h2 : mS b c) : mS a c := ⟨fun k x y => (h2.1 k x y).trans (h1.1 k x y), fun i x y z w => (h2.2 i x y z w).trans (h1.2 i x y z w)⟩
theorem mS.up {σ σ' : hbM} (h : mS σ σ') {c : Nat} (i : Nat) (v : Int32) (hc : 70 ≤ c ∧ c ≤ 78) : mS σ (hb_up σ' c i v) :=
  ⟨fun k x y => by rw [um_c _ _ _ (by omega)]; exact h.1 k x y, fun j x y z w => by rw [um_c _ _ _ (by omega)]; exact h.2 j x y z w⟩
theorem mS.upf {σ σ' : hbM} (h : mS σ σ') {i : Nat} (v : Int32) (hi : i = 0 ∨ i = 37 ∨ i = 42 ∨ i = 43) : mS σ (hb_up σ' 54 i v) :=
  ⟨fun k x y => by rw [um_c _ _ _ x]; exact h.1 k x y, fun j x y z w => by rw [um_i _ _ _ (by omega)]; exact h.2 j x y z w⟩
theorem mS_tn {σ σ' : hbM} (h : mS σ σ') {c : Nat} (hc : c < 70 ∧ c ≠ 54) : tn σ' c = tn σ c := by funext i; unfold tn; rw [h.1 c hc.2 (Or.inl hc.1)]
theorem mS_mF {σ σ' : hbM} {F : hbF} (h : mS σ σ') (hF : mF σ F) : mF σ' F := by
  obtain ⟨h1, h2, h3⟩ := hF
  refine ⟨h1, by rw [h.2 5 (by omega) (by omega) (by omega) (by omega)]; exact h2, fun i hi => ?_⟩
  rw [h.1 58 (by omega) (by omega), h.1 59 (by omega) (by omega), h.1 60 (by omega) (by omega)]
  exact h3 i hi
theorem mS_mC {σ σ' : hbM} (h : mS σ σ') {i : Nat} (hC : mC σ i) : mC σ' i := by
  unfold mC
  rw [h.1 62 (by omega) (by omega), h.1 63 (by omega) (by omega), h.1 64 (by omega) (by omega)]
  exact hC
theorem mS_cM {σ σ' : hbM} (h : mS σ σ') (i : Nat) : cM σ' i = cM σ i := by
  unfold cM
  rw [mS_tn h (c := 62) (by omega), mS_tn h (c := 63) (by omega), mS_tn h (c := 64) (by omega)]
theorem mS_mL {σ σ' : hbM} {L : hbL} {f o : Nat} (h : mS σ σ') (hf : f = 9 ∨ f = 10) (hL : mL σ L f o) : mL σ' L f o := by
  obtain ⟨h1, h2, h3⟩ := hL
  refine ⟨h1, by rw [h.2 f (by omega) (by omega) (by omega) (by omega)]; exact h2, fun i hi => ?_⟩
  obtain ⟨k1, k2⟩ := h3 i hi
  refine ⟨by rw [h.1 61 (by omega) (by omega)]; exact k1, fun j hj => ?_⟩
  rw [mS_cM h]
  exact ⟨mS_mC h (k2 j hj).1, (k2 j hj).2⟩
theorem mS_mR {σ σ' : hbM} {P : hbGP} {F : hbF} (h : mS σ σ') (hR : mR σ P F) : mR σ' P F := by
  obtain ⟨hF, hn, hn2, hi, hT, hb, hbe, hl⟩ := hR
  refine ⟨mS_mF h hF, hn, by rw [h.2 11 (by omega) (by omega) (by omega) (by omega)]; exact hn2, fun i hk => ?_, hT, hb, by rw [h.2 34 (by omega) (by omega) (by omega) (by omega)]; exact hbe, fun v hv => ?_⟩
  · obtain ⟨a1, a2, a3, a4, a5, a6⟩ := hi i hk
    refine ⟨a1, by rw [h.1 65 (by omega) (by omega)]; exact a2, a3, a4, fun x y => by rw [h.1 66 (by omega) (by omega)]; exact a5 x y, fun x => ?_⟩
    rw [mS_cM h]
    exact ⟨mS_mC h (a6 x).1, (a6 x).2⟩
  · rw [h.1 68 (by omega) (by omega)]; exact hl v hv
/-- where P ends -/
theorem gOn_none {P : hbGP} (ha : ∀ i, i < P.1 → P.2.1 i < 6) (p : Nat) : gOn P p = none ↔ ¬ (p / 1024 < P.1 ∧ P.2.1 (p / 1024) ≠ 5) := by
  unfold gOn
  by_cases hk : p / 1024 < P.1
  · rw [if_pos hk]
    have h6 := ha _ hk
    constructor
    · intro h
      rintro ⟨-, h5⟩
      split at h
      · cases h
      · split at h
        · cases h
        · split at h
          · split at h <;> cases h
          · split at h
            · split at h <;> cases h
            · split at h
              · cases h
              · omega
    · intro h
      have h5 : P.2.1 (p / 1024) = 5 := Classical.byContradiction fun q => h ⟨hk, q⟩
      rw [h5]; rfl
  · rw [if_neg hk]
    exact ⟨fun _ q => hk q.1, fun _ => rfl⟩
theorem gOn_ltm {σ : hbM} {P : hbGP} {F : hbF} (hR : mR σ P F) {p q : Nat} (hp : p < 17408) (e : gOn P p = some q) : q < 17408 := by
  obtain ⟨hF, hn, hn2, hi, hT, hb, hbe, hl⟩ := hR
  have hTl : ∀ st, st < 1024 → P.2.2.2.2.1 st < 1024 := fun st h => by rw [hT st h]; exact wTick_lt F st
  have hDl : ∀ st v op, st < 1024 → v < 4 → gDone P.2.2.2.2.1 P.2.2.2.2.2.1 st v op < 1024 := fun st v op hs hv => by
    have hp : 2 ^ v < 1024 := by rcases (show v = 0 ∨ v = 1 ∨ v = 2 ∨ v = 3 by omega) with rfl | rfl | rfl | rfl <;> decide
    unfold gDone
    split
    · apply hTl
      split
      · exact hs
      · exact Nat.or_lt_two_pow (n := 10) hs hp
    · exact hTl _ (Nat.lt_of_le_of_lt Nat.and_le_left hs)
  unfold gOn at e
  split at e
  · rename_i hk
    obtain ⟨a1, a2, a3, a4, a5, a6⟩ := hi _ hk
    have ht := hTl (p % 1024) (by omega)
    split at e
    · cases e
      have := hDl (p % 1024) (P.2.2.1 (p / 1024)) true (by omega) (a4 (by omega))
      omega
    · split at e
      · cases e
        have := hDl (p % 1024) (P.2.2.1 (p / 1024)) false (by omega) (a4 (by omega))
        omega
      · split at e
        · split at e <;> cases e <;> omega
        · split at e
          · split at e <;> cases e <;> omega
          · split at e <;> cases e
            omega
  · cases e
theorem s158_loop {σ : hbM} {P : hbGP} {F : hbF} {B : hbL} (hR : mR σ P F) (hB : mL σ B 9 0) (x1 : Int32) {w : Nat} (hw : w < 3) : ∀ (n i p t : Nat) (h : Bool), i + n = 17408 → p < 17408 → t ≤ i →
    hb_run hbSH 158 (38, [.ref 54, .int x1, .int (nI w), .int (nI p), .int (nI t), .int (hbb h), .int (nI i)], [], σ) =
      some (some (.int (if w = 0 then hbo (mw (gOn P) (gTk P) (fun st => wAny B st B.1) n p t h).1
        else if w = 1 then (if (mw (gOn P) (gTk P) (fun st => wAny B st B.1) n p t h).1 = none then hbNO else nI (mw (gOn P) (gTk P) (fun st => wAny B st B.1) n p t h).2.1)
        else hbb (mw (gOn P) (gTk P) (fun st => wAny B st B.1) n p t h).2.2)), σ) := by
  intro n
  induction n with
  | zero =>
    intro i p t h hi hp ht
    obtain rfl : i = 17408 := by omega
    rw [e158_38, if_pos (by decide)]
    simp only [mw]
    rcases (show w = 0 ∨ w = 1 ∨ w = 2 by omega) with rfl | rfl | rfl
    · rfl
    · rfl
    · cases h <;> rfl
  | succ n ih =>
    intro i p t h hi hp ht
    have d1 : decide (¬ (1024 : Int32) = 0) = true := by decide
    have eq1 : nI p / (1024 : Int32) = nI (p / 1024) := q_div (d := 1024) (by omega) (by omega) (by omega)
    have eq2 : nI p - nI (p / 1024) * (1024 : Int32) = nI (p % 1024) := q_rem (d := 1024) (by omega) (by omega) (by omega)
    have key : hb_run hbSH 158 (68, [.ref 54, .int x1, .int (nI w), .int (nI p), .int (nI t), .int (hbb h), .int (nI i)], [.int (hbb (h || wAny B (p % 1024) B.1))], σ) =
      some (some (.int (if w = 0 then hbo (mw (gOn P) (gTk P) (fun st => wAny B st B.1) (n + 1) p t h).1
        else if w = 1 then (if (mw (gOn P) (gTk P) (fun st => wAny B st B.1) (n + 1) p t h).1 = none then hbNO else nI (mw (gOn P) (gTk P) (fun st => wAny B st B.1) (n + 1) p t h).2.1)
        else hbb (mw (gOn P) (gTk P) (fun st => wAny B st B.1) (n + 1) p t h).2.2)), σ) := by
      rw [e158_68, d1, hb_g_t, hb_g_nil, eq1, eq2, s151 hR (by omega), hb_ci_s, hb_g_t, hb_g_nil]
      have hoff := gOn_none (P := P) (fun i hi => (hR.2.2.2.1 i hi).1) p
      cases hn : gOn P p with
      | none =>
        rw [mw_none n t h hn, decide_eq_true (hoff.mp hn), hbb_t, if_neg (by decide)]
        rcases (show w = 0 ∨ w = 1 ∨ w = 2 by omega) with rfl | rfl | rfl
        · rfl
        · rfl
        · rw [if_pos (by decide), if_pos (by decide)]
          cases (h || wAny B (p % 1024) B.1) <;> rfl
      | some q =>
        have hgo : p / 1024 < P.1 ∧ P.2.1 (p / 1024) ≠ 5 := Classical.byContradiction fun z => by
          have := hoff.mpr z; rw [hn] at this; cases this
        have hq := gOn_ltm hR hp hn
        have ih1 := ih (i + 1) q (t + (if gTk P p = true then 1 else 0)) (h || wAny B (p % 1024) B.1) (by omega) hq (by split <;> omega)
        rw [mw_some n t h hn, decide_eq_false (fun z => z hgo), hbb_f, if_pos (by decide), s157 hR hp hgo.1, hb_ci_s, e158_130, e158_130, s152 hR hp, hb_ci_s, hn, nI_1, hb_ci_s]
        cases htk : gTk P p with
        | false =>
          rw [htk] at ih1
          rw [if_pos (by decide), show nI t + (0 : Int32) = nI (t + 0) from by rw [q_0, q_add]]
          exact ih1
        | true =>
          rw [htk] at ih1
          rw [if_neg (by decide), show nI t + (1 : Int32) = nI (t + 1) from nI_1 t]
          exact ih1
    rw [e158_38, if_neg (by rw [q_17408, q_le (by omega) (by omega)]; omega), d1, hb_g_t, hb_g_nil, eq1, eq2, s146 hB (by omega), hb_ci_s]
    cases h with
    | true => rw [if_pos (by decide)]; exact key
    | false =>
      rw [if_neg (by decide)]
      cases hb : wAny B (p % 1024) B.1 with
      | false => rw [if_pos (by decide)]; rw [hb] at key; exact key
      | true => rw [if_neg (by decide)]; rw [hb] at key; exact key
theorem s158 {σ : hbM} {P : hbGP} {F : hbF} {B : hbL} (hR : mR σ P F) (hB : mL σ B 9 0) (x y : Int32) :
    ∃ σ', hb_ev hbSH 158 [.ref 54, .int x, .int y] σ = some (some (.int (if hb_in x 1024 = true ∧ hb_in y 3 = true then aRun P (fun st => wAny B st B.1) x.toNatClampNeg y.toNatClampNeg else -1000001)), σ') ∧ mS σ σ' := by
  have m1 : mS σ (hb_up σ 54 0 0) := (mS.rf σ).upf _ (Or.inl rfl)
  refine ⟨hb_up σ 54 0 0, ?_, m1⟩
  rw [v158, e158_0, s136, hb_ci_s, s112, hb_ci_s, q_long y 3 (by decide)]
  cases hx : hb_in x 1024 with
  | false => rw [hbb_f, if_pos rfl, if_neg (fun q => by cases q.1)]
  | true =>
    cases hy : hb_in y 3 with
    | false => rw [hbb_t, hbb_f, if_neg (by decide), if_neg (fun q => q rfl), if_neg (fun q => by cases q.2)]
    | true =>
      obtain ⟨st, hs, rfl⟩ := q_in_of hx
      obtain ⟨w, hw, rfl⟩ := q_in_of hy
      have hl := s158_loop (mS_mR m1 hR) (mS_mL m1 (Or.inl rfl) hB) (nI st) hw 17408 0 st 0 false (by omega) (by omega) (by omega)
      rw [hbb_t, if_neg (by decide), if_pos (by decide), q_cl (by omega), q_cl (by omega), if_pos ⟨rfl, rfl⟩]
      unfold aRun
      exact hl
