/-! through: the reference's answers -/
theorem mQ_frame {σ σ' : hbM} {n : Nat} {row : Nat → Nat} {C : Nat → Bool} (h54 : σ' 54 37 = σ 54 37) (h70 : σ' 70 = σ 70) (h71 : σ' 71 = σ 71) (h : mQ σ n row C) : mQ σ' n row C := by
  unfold mQ; rw [h54, h70, h71]; exact h
theorem s161_loop {σ : hbM} {B : hbL} (hB : mL σ B 9 0) {P : hbGP} {sl st n : Nat} {row : Nat → Nat} (hQ : mQ σ n row (tC P sl st)) (hlt : ∀ x, tC P sl st x = true → x < 52224) : ∀ (f i : Nat), i + f = n → (∀ k, k < i → wAny B (row k % 1024) B.1 = false) →
    hb_run hbSH 161 (4, [.ref 54, .int 0, .int (nI i)], [], σ) = some (some (.int (hbb (tHarm P (fun s => wAny B s B.1) sl st))), σ) := by
  have hn : n ≤ 52224 := by rw [hQ.2.2.2.2]; exact cnt_le _ _
  intro f
  induction f with
  | zero =>
    intro i hi h
    have e : tHarm P (fun s => wAny B s B.1) sl st = false := by
      unfold tHarm
      apply bP_eq
      constructor
      · intro z; cases z
      · rintro ⟨x, h1, h2⟩
        obtain ⟨k, hk, hr⟩ := hQ.2.2.2.1 x (hlt x h1) h1
        have := h k (by omega)
        rw [hr] at this
        rw [show wAny B (x % 1024) B.1 = true from h2] at this; cases this
    rw [e161_4, hQ.1, if_pos (by rw [q_le (by omega) (by omega)]; omega), e]
    rfl
  | succ f ih =>
    intro i hi h
    obtain ⟨a1, a2, a3⟩ := hQ.2.1 i (by omega)
    have d1 : decide (¬ (1024 : Int32) = 0) = true := by decide
    have eq1 : nI (row i) / (1024 : Int32) = nI (row i / 1024) := q_div (d := 1024) (by omega) (by omega) (by omega)
    have eq2 : nI (row i) - nI (row i / 1024) * (1024 : Int32) = nI (row i % 1024) := q_rem (d := 1024) (by omega) (by omega) (by omega)
    rw [e161_4, hQ.1, if_neg (by rw [q_le (by omega) (by omega)]; omega), if_neg (fun z => z rfl), q_inT (by omega) (by omega), d1, hb_g_t, hb_g_t, hb_g_nil, q_cl (by omega), a1, eq1, eq2, s146 hB (by omega), hb_ci_s, nI_1]
    cases hb : wAny B (row i % 1024) B.1 with
    | false =>
      exact ih (i + 1) (by omega) (fun k hk => by
        by_cases z : k = i
        · rw [z]; exact hb
        · exact h k (by omega))
    | true =>
      have e : tHarm P (fun s => wAny B s B.1) sl st = true := by
        unfold tHarm
        exact bP_iff.mpr ⟨row i, a3, hb⟩
      rw [e161_4, e]
      by_cases z : σ 54 37 ≤ nI (i + 1)
      · rw [if_pos z]; rfl
      · rw [if_neg z, if_pos (show ¬ hbb true = (0 : Int32) by decide)]; rfl
theorem s161 {σ : hbM} {B : hbL} (hB : mL σ B 9 0) {P : hbGP} {sl st n : Nat} {row : Nat → Nat} (hQ : mQ σ n row (tC P sl st)) (hlt : ∀ x, tC P sl st x = true → x < 52224) : hb_ev hbSH 161 [.ref 54] σ = some (some (.int (hbb (tHarm P (fun s => wAny B s B.1) sl st))), σ) := by
  rw [v161, e161_0]
  exact s161_loop hB hQ hlt n 0 (by omega) (fun k hk => by omega)
/-! neverEndsFrom -/
def mE (σ : hbM) (P : hbGP) : Prop := ∀ p, p < 17408 → ∃ v, σ 72 p = nI v ∧ (v = 0 ∨ (v = 1 ∧ ¬ hang (gOn P) p) ∨ (v = 2 ∧ hang (gOn P) p))
theorem fw_s (on : Nat → Option Nat) : ∀ (i p q : Nat), fw on i p = some q → fw on (i + 1) p = on q := by
  intro i
  induction i with
  | zero => intro p q h; simp only [fw] at h; cases h; simp only [fw]; cases on p <;> rfl
  | succ i ih =>
    intro p q h
    simp only [fw] at h
    show (match on p with
      | none => none
      | some q => fw on (i + 1) q) = _
    cases hn : on p with
    | none => rw [hn] at h; cases h
    | some r => rw [hn] at h; exact ih r q h
theorem hang_fw {on : Nat → Option Nat} : ∀ (i p q : Nat), fw on i p = some q → (hang on p ↔ hang on q) := by
  intro i
  induction i with
  | zero => intro p q h; simp only [fw] at h; cases h; exact Iff.rfl
  | succ i ih =>
    intro p q h
    simp only [fw] at h
    cases hn : on p with
    | none => rw [hn] at h; cases h
    | some r => rw [hn] at h; rw [hang_some hn]; exact ih r q h
theorem s162_p1 {σ : hbM} {P : hbGP} {F : hbF} (hR : mR σ P F) (hP : gOk P) (hE : mE σ P) {p0 : Nat} (hp0 : p0 < 17408) : ∀ (f i p : Nat), i + f = 17409 → p < 17408 → fw (gOn P) i p0 = some p →
    ∃ (w : Nat) (x3 : Int32), hb_run hbSH 162 (4, [.ref 54, .int (nI p0), .int (nI p), .int (nI i), .null], [], σ) = hb_run hbSH 162 (83, [.ref 54, .int (nI p0), .int (nI p0), .int x3, .int (nI w)], [], σ) ∧ ((w = 2 ∧ hang (gOn P) p0) ∨ (w = 1 ∧ ¬ hang (gOn P) p0)) := by
  intro f
  induction f with
  | zero =>
    intro i p hi hp hf
    obtain rfl : i = 17409 := by omega
    obtain ⟨v, hv, hc⟩ := hE p hp
    have d1 : decide (¬ (1024 : Int32) = 0) = true := by decide
    have eq1 : nI p / (1024 : Int32) = nI (p / 1024) := q_div (d := 1024) (by omega) (by omega) (by omega)
    have hin : hb_in (nI p) 17408 = true := q_inT (by omega) hp
    have hh : hang (gOn P) p0 := hang_pigeon (N := 17408) hP.1 17409 (fun _ => false) p0 hp0 (fun v h => by cases h) (by omega) (by rw [hf]; exact fun z => by cases z)
    have hhp := (hang_fw _ _ _ hf).mp hh
    rw [e162_4, hin, hb_g_t, hb_g_nil, q_cl (by omega), hv]
    rcases hc with rfl | ⟨rfl, h1⟩ | ⟨rfl, h1⟩
    · rw [if_neg (fun z => z rfl), d1, hb_g_t, hb_g_nil, eq1, s151 hR (by omega), hb_ci_s]
      have hoff := gOn_none (P := P) hP.2.2 p
      have hne : p / 1024 < P.1 ∧ P.2.1 (p / 1024) ≠ 5 := Classical.byContradiction fun z => hang_none (hoff.mpr z) hhp
      rw [decide_eq_false (fun z => z hne), hbb_f, if_neg (fun z => z rfl), if_pos (by decide), hb_g_t, hb_g_nil, hv, if_pos (by decide), hb_g_t, hb_g_nil, s151 hR (by omega), hb_ci_s, decide_eq_false (fun z => z hne), hbb_f, if_pos rfl]
      exact ⟨2, _, rfl, Or.inl ⟨rfl, hh⟩⟩
    · exact absurd hhp h1
    · rw [if_pos (by decide), hb_g_t, hb_g_nil, if_neg (by decide), hb_g_t, hb_g_nil]
      exact ⟨2, _, rfl, Or.inl ⟨rfl, hh⟩⟩
  | succ f ih =>
    intro i p hi hp hf
    obtain ⟨v, hv, hc⟩ := hE p hp
    have d1 : decide (¬ (1024 : Int32) = 0) = true := by decide
    have eq1 : nI p / (1024 : Int32) = nI (p / 1024) := q_div (d := 1024) (by omega) (by omega) (by omega)
    have hin : hb_in (nI p) 17408 = true := q_inT (by omega) hp
    have hhp := hang_fw _ _ _ hf
    rw [e162_4, hin, hb_g_t, hb_g_nil, q_cl (by omega), hv]
    rcases hc with rfl | ⟨rfl, h1⟩ | ⟨rfl, h1⟩
    · rw [if_neg (fun z => z rfl), d1, hb_g_t, hb_g_nil, eq1, s151 hR (by omega), hb_ci_s]
      have hoff := gOn_none (P := P) hP.2.2 p
      cases hg : gOn P p with
      | none =>
        rw [decide_eq_true (hoff.mp hg), hbb_t, if_pos (by decide), hb_g_t, hb_g_nil, hv, if_pos (by decide), hb_g_t, hb_g_nil, s151 hR (by omega), hb_ci_s, decide_eq_true (hoff.mp hg), hbb_t, if_neg (by decide)]
        exact ⟨1, _, rfl, Or.inr ⟨rfl, fun z => hang_none hg (hhp.mp z)⟩⟩
      | some q =>
        have hne : p / 1024 < P.1 ∧ P.2.1 (p / 1024) ≠ 5 := Classical.byContradiction fun z => by
          have := hoff.mpr z; rw [hg] at this; cases this
        obtain ⟨w, x3, k1, k2⟩ := ih (i + 1) q (by omega) (hP.1 _ _ hp hg) (by rw [fw_s _ _ _ _ hf]; exact hg)
        refine ⟨w, x3, ?_, k2⟩
        rw [decide_eq_false (fun z => z hne), hbb_f, if_neg (fun z => z rfl), if_neg (by rw [q_17408, q_lt (by omega) (by omega)]; omega), s152 hR hp, hb_ci_s, hg, nI_1]
        exact k1
    · rw [if_pos (by decide), hb_g_t, hb_g_nil, if_neg (by decide), hb_g_t, hb_g_nil]
      exact ⟨1, _, rfl, Or.inr ⟨rfl, fun z => h1 (hhp.mp z)⟩⟩
    · rw [if_pos (by decide), hb_g_t, hb_g_nil, if_neg (by decide), hb_g_t, hb_g_nil]
      exact ⟨2, _, rfl, Or.inl ⟨rfl, hhp.mpr h1⟩⟩
theorem mS72 {σ σ' : hbM} (h : ∀ c, c ≠ 72 → σ' c = σ c) : mS σ σ' := ⟨fun c _ h2 => h c (by omega), fun i _ _ _ _ => by rw [h 54 (by omega)]⟩
theorem s162_p2 {P : hbGP} {F : hbF} (hP : gOk P) {x1 x3 : Int32} {w : Nat} : ∀ (f p : Nat) (σ : hbM), p < 17408 → mR σ P F → mE σ P → cnt (fun p => decide (σ 72 p = 0)) 17408 ≤ f → ((w = 2 ∧ hang (gOn P) p) ∨ (w = 1 ∧ ¬ hang (gOn P) p)) →
    ∃ σ', hb_run hbSH 162 (83, [.ref 54, .int x1, .int (nI p), .int x3, .int (nI w)], [], σ) = some (some (.int (hbb (decide (w = 2)))), σ') ∧ mE σ' P ∧ ∀ c, c ≠ 72 → σ' c = σ c := by
  intro f
  induction f with
  | zero =>
    intro p σ hp hR hE hc hw
    have hz : ¬ σ 72 p = 0 := fun z => by
      have := cnt_del (f := fun p => decide (σ 72 p = 0)) (p := p) (decide_eq_true z) hp
      omega
    refine ⟨σ, ?_, hE, fun _ _ => rfl⟩
    rw [e162_83, q_inT (by omega) hp, hb_g_t, hb_g_nil, q_cl (by omega), if_pos hz]
    rcases hw with ⟨rfl, _⟩ | ⟨rfl, _⟩ <;> rfl
  | succ f ih =>
    intro p σ hp hR hE hc hw
    have hin : hb_in (nI p) 17408 = true := q_inT (by omega) hp
    rw [e162_83, hin, hb_g_t, hb_g_nil, q_cl (by omega)]
    by_cases hz : σ 72 p = 0
    · have hcd := cnt_del (f := fun p => decide (σ 72 p = 0)) (p := p) (decide_eq_true hz) hp
      have d1 : decide (¬ (1024 : Int32) = 0) = true := by decide
      have eq1 : nI p / (1024 : Int32) = nI (p / 1024) := q_div (d := 1024) (by omega) (by omega) (by omega)
      have fr : ∀ c, c ≠ 72 → hb_up σ 72 p (nI w) c = σ c := fun c h => um_c _ _ _ h
      have hR1 := mS_mR (mS72 fr) hR
      have hE1 : mE (hb_up σ 72 p (nI w)) P := fun q hq => by
        rw [um_at]
        by_cases z : q = p
        · rw [if_pos z]
          refine ⟨w, rfl, ?_⟩
          rw [z]
          rcases hw with ⟨h1, h2⟩ | ⟨h1, h2⟩
          · exact Or.inr (Or.inr ⟨h1, h2⟩)
          · exact Or.inr (Or.inl ⟨h1, h2⟩)
        · rw [if_neg z]; exact hE q hq
      have hw0 : ¬ nI w = 0 := by rcases hw with ⟨rfl, _⟩ | ⟨rfl, _⟩ <;> decide
      have hc1 : cnt (fun q => decide (hb_up σ 72 p (nI w) 72 q = 0)) 17408 ≤ f := by
        have : cnt (fun q => decide (hb_up σ 72 p (nI w) 72 q = 0)) 17408 = cnt (fun x => decide (σ 72 x = 0) && !decide (x = p)) 17408 := cnt_eq _ (fun q _ => by
          show decide (hb_up σ 72 p (nI w) 72 q = 0) = (decide (σ 72 q = 0) && !decide (q = p))
          rw [um_at]
          by_cases z : q = p
          · rw [if_pos z, decide_eq_true z, decide_eq_false hw0]; simp
          · rw [if_neg z, decide_eq_false z]; simp)
        omega
      rw [if_neg (fun z => z hz), d1, hb_g_t, hb_g_t, hb_g_nil, eq1, s151 hR1 (by omega), hb_ci_s]
      have hoff := gOn_none (P := P) hP.2.2 p
      cases hg : gOn P p with
      | none =>
        rw [decide_eq_true (hoff.mp hg), hbb_t, if_neg (by decide)]
        obtain ⟨σ', k1, k2, k3⟩ := ih p _ hp hR1 hE1 hc1 hw
        exact ⟨σ', k1, k2, fun c hc => (k3 c hc).trans (fr c hc)⟩
      | some q =>
        have hne : p / 1024 < P.1 ∧ P.2.1 (p / 1024) ≠ 5 := Classical.byContradiction fun z => by
          have := hoff.mpr z; rw [hg] at this; cases this
        rw [decide_eq_false (fun z => z hne), hbb_f, if_pos rfl, s152 hR1 hp, hb_ci_s, hg]
        obtain ⟨σ', k1, k2, k3⟩ := ih q _ (hP.1 _ _ hp hg) hR1 hE1 hc1 (by rw [← hang_some hg]; exact hw)
        exact ⟨σ', k1, k2, fun c hc => (k3 c hc).trans (fr c hc)⟩
    · refine ⟨σ, ?_, hE, fun _ _ => rfl⟩
      rw [if_pos hz]
      rcases hw with ⟨rfl, _⟩ | ⟨rfl, _⟩ <;> rfl
theorem s162 {σ : hbM} {P : hbGP} {F : hbF} (hR : mR σ P F) (hP : gOk P) (hE : mE σ P) {p : Nat} (hp : p < 17408) : ∃ σ', hb_ev hbSH 162 [.ref 54, .int (nI p)] σ = some (some (.int (hbb (bP (hang (gOn P) p)))), σ') ∧ mE σ' P ∧ ∀ c, c ≠ 72 → σ' c = σ c := by
  obtain ⟨w, x3, k1, k2⟩ := s162_p1 hR hP hE hp 17409 0 p (by omega) hp rfl
  obtain ⟨σ', m1, m2, m3⟩ := s162_p2 (F := F) hP (x1 := nI p) (x3 := x3) (w := w) 17408 p σ hp hR hE (cnt_le _ _) k2
  refine ⟨σ', ?_, m2, m3⟩
  rw [v162, e162_0, show (0 : Int32) = nI 0 from rfl, k1, m1]
  congr 4
  rcases k2 with ⟨h1, h2⟩ | ⟨h1, h2⟩
  · rw [decide_eq_true h1, bP_iff.mpr h2]
  · rw [decide_eq_false (by omega)]
    rw [bP_eq (b := false) ⟨fun z => (by cases z), fun z => absurd z h2⟩]
