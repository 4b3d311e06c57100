/-! through: fates of the class -/
def ft (σ : hbM) (r p : Nat) : Nat := if tn σ 52 p / 4 = r then tn σ 52 p % 4 else 0
def fB (σ : hbM) (r : Nat) : Prop := ∀ p, p < 17408 → ∃ v, v < 4 * (r + 1) ∧ σ 52 p = nI v
def fV (P : hbGP) (r : Nat) (σ : hbM) (p : Nat) : Prop := ft σ r p = 0 ∨ (ft σ r p = 2 ∧ ¬ hang (gOn P) p) ∨ (ft σ r p = 3 ∧ hang (gOn P) p)
def fI (P : hbGP) (r : Nat) (σ : hbM) : Prop := fB σ r ∧ ∀ p, p < 17408 → fV P r σ p
theorem s58 {σ : hbM} {r p : Nat} (h4 : σ 44 4 = nI r) (hr : r < 100000000) (hB : fB σ r) (hp : p < 17408) : hb_ev hbSH 58 [.ref 50, .int (nI p)] σ = some (some (.int (nI (ft σ r p))), σ) := by
  obtain ⟨v, hv, e⟩ := hB p hp
  have et : tn σ 52 p = v := by unfold tn; rw [e, q_cl (by omega)]
  rw [v58, e58_0, q_inT (by omega) hp, hb_g_t, hb_g_nil, q_cl (by omega), e, q_shr2 (by omega), h4]
  unfold ft
  rw [et]
  by_cases z : v / 4 = r
  · rw [if_neg (fun y => y (by rw [z])), if_pos z, q_3, q_and, q_a3]
  · rw [if_pos (fun y => z (by rw [q_eq (by omega) (by omega)] at y; exact y)), if_neg z]
    rfl
theorem s59 {σ : hbM} {r p v : Nat} (h4 : σ 44 4 = nI r) (hr : r < 100000000) (hp : p < 17408) (hv : v < 4) : hb_ev hbSH 59 [.ref 50, .int (nI p), .int (nI v)] σ = some (none, hb_up σ 52 p (nI (4 * r + v))) := by
  rw [v59, e59_0, q_inT (by omega) hp, hb_g_t, hb_g_nil, q_cl (by omega), h4, q_shl2 (by omega), q_or, Nat.mul_comm r 4, ← Nat.two_pow_add_eq_or_of_lt (i := 2) (by omega : v < 2 ^ 2)]
theorem ft_up {σ : hbM} {r p v : Nat} (hr : r < 100000000) (hv : v < 4) (q : Nat) : ft (hb_up σ 52 p (nI (4 * r + v))) r q = if q = p then v else ft σ r q := by
  unfold ft tn
  rw [um_at]
  by_cases z : q = p
  · rw [if_pos z, if_pos z, q_cl (by omega), if_pos (by omega)]; omega
  · rw [if_neg z, if_neg z]
theorem fB_up {σ : hbM} {r p v : Nat} (hv : v < 4) (hB : fB σ r) : fB (hb_up σ 52 p (nI (4 * r + v))) r := fun q hq => by
  rw [um_at]
  by_cases z : q = p
  · rw [if_pos z]; exact ⟨4 * r + v, by omega, rfl⟩
  · rw [if_neg z]; exact hB q hq
/-- the places of a walk -/
def rw0 (P : hbGP) (p k : Nat) : Nat := (fw (gOn P) k p).getD 0
theorem rw0_of {P : hbGP} {p k q : Nat} (h : fw (gOn P) k p = some q) : rw0 P p k = q := by unfold rw0; rw [h]; rfl
theorem fw_pre {on : Nat → Option Nat} {p : Nat} : ∀ (i k : Nat), k ≤ i → fw on i p ≠ none → fw on k p ≠ none := by
  intro i
  induction i with
  | zero => intro k hk h; rw [show k = 0 by omega]; exact h
  | succ i ih =>
    intro k hk h
    by_cases z : k = i + 1
    · rw [z]; exact h
    · refine ih k (by omega) (fun y => ?_)
      apply h
      clear h z hk ih
      induction i generalizing p with
      | zero => simp only [fw] at y; cases y
      | succ i ih =>
        simp only [fw] at y ⊢
        cases hn : on p with
        | none => rfl
        | some q => rw [hn] at y; exact ih y
theorem rw0_s {P : hbGP} {p k q : Nat} (h : fw (gOn P) (k + 1) p = some q) : gOn P (rw0 P p k) = some (rw0 P p (k + 1)) := by
  have h1 := fw_pre (on := gOn P) (p := p) (k + 1) k (by omega) (by rw [h]; exact fun z => by cases z)
  cases hk : fw (gOn P) k p with
  | none => exact absurd hk h1
  | some a =>
    rw [rw0_of hk, ← fw_s _ _ _ _ hk, h, rw0_of h]
/-- on the way: the first i places of the walk bear 1, all else is as it should be -/
def fO (P : hbGP) (r p0 j i : Nat) (σ : hbM) : Prop := fB σ r ∧ ∀ p, p < 17408 → ((∃ k, j ≤ k ∧ k < i ∧ rw0 P p0 k = p) → ft σ r p = 1) ∧ ((¬ ∃ k, j ≤ k ∧ k < i ∧ rw0 P p0 k = p) → fV P r σ p)
theorem fV_ne {P : hbGP} {r p : Nat} {σ : hbM} (h : fV P r σ p) : ft σ r p ≠ 1 := by
  intro z
  rcases h with h | ⟨h, _⟩ | ⟨h, _⟩ <;> omega
theorem c52 {σ σ' : hbM} (h : ∀ c, c ≠ 52 → σ' c = σ c) : cS σ σ' := fun c hc => h c (by omega)
theorem s57_p1 {P : hbGP} {r p0 : Nat} (hr : r < 100000000) (hP : gOk P) (hp0 : p0 < 17408) : ∀ (f i at' : Nat) (σ : hbM), i + f = 17409 → gI σ → gP σ = P → σ 44 4 = nI r → fw (gOn P) i p0 = some at' → at' < 17408 → fO P r p0 0 i σ → (∀ a b, a < i → b < i → rw0 P p0 a = rw0 P p0 b → a = b) → (∀ k, k < i → rw0 P p0 k < 17408) → cnt (fun p => decide (ft σ r p = 1)) 17408 = i →
    ∃ σ' i' w, hb_run hbSH 57 (7, [.ref 50, .int (nI p0), .int 0, .int (nI at'), .int (nI i)], [], σ) = hb_run hbSH 57 (77, [.ref 50, .int (nI p0), .int (nI w), .int (nI p0), .int 0], [], σ') ∧ (∀ c, c ≠ 52 → σ' c = σ c) ∧ ((w = 2 ∧ ¬ hang (gOn P) p0) ∨ (w = 3 ∧ hang (gOn P) p0)) ∧ fO P r p0 0 i' σ' ∧ (∀ a b, a < i' → b < i' → rw0 P p0 a = rw0 P p0 b → a = b) ∧ (∀ k, k < i' → rw0 P p0 k < 17408 ∧ fw (gOn P) k p0 ≠ none) ∧ i' ≤ 17408 := by
  intro f
  induction f with
  | zero =>
    intro i at' σ hi hg hP' h4 hf hat hO hinj hlt hc
    have := cnt_le (fun p => decide (ft σ r p = 1)) 17408
    omega
  | succ f ih =>
    intro i at' σ hi hg hP' h4 hf hat hO hinj hlt hc
    have hcl := cnt_le (fun p => decide (ft σ r p = 1)) 17408
    have hpre : ∀ k, k < i → fw (gOn P) k p0 ≠ none := fun k hk => fw_pre i k (by omega) (by rw [hf]; exact fun z => by cases z)
    have hhang := hang_fw (on := gOn P) i p0 at' hf
    rw [e57_7, if_neg (by rw [q_17408, q_lt (by omega) (by omega)]; omega), if_neg (fun z => z rfl), s58 h4 hr hO.1 hat, hb_ci_s]
    have ex : ∀ (w : Nat) (x3 : Int32) (σ1 : hbM), w = 2 ∨ w = 3 → hb_run hbSH 57 (7, [.ref 50, .int (nI p0), .int (nI w), .int x3, .int (nI i + 1)], [], σ1) = hb_run hbSH 57 (77, [.ref 50, .int (nI p0), .int (nI w), .int (nI p0), .int 0], [], σ1) := fun w x3 σ1 hw => by
      rw [e57_7]
      by_cases z : (17408 : Int32) < nI i + 1
      · rw [if_pos z]
      · rw [if_neg z, if_pos (by rcases hw with rfl | rfl <;> decide)]
    by_cases hW : ∃ k, 0 ≤ k ∧ k < i ∧ rw0 P p0 k = at'
    · have h1 := (hO.2 at' hat).1 hW
      rw [h1, if_neg (fun z => z rfl)]
      refine ⟨σ, i, 3, ex 3 _ σ (Or.inr rfl), fun _ _ => rfl, Or.inr ⟨rfl, ?_⟩, hO, hinj, fun k hk => ⟨hlt k hk, hpre k hk⟩, by omega⟩
      have hcl := hang_closed (on := gOn P) (V := fun x => bP (∃ k, k < i ∧ rw0 P p0 k = x)) (fun v hv => by
        obtain ⟨k, hk, e⟩ := bP_iff.mp hv
        have hs := rw0_s (P := P) (p := p0) (k := k) (q := rw0 P p0 (k + 1)) (by
          cases hq : fw (gOn P) (k + 1) p0 with
          | none => exact absurd hq (fw_pre i (k + 1) (by omega) (by rw [hf]; exact fun z => by cases z))
          | some q => rw [rw0_of hq])
        refine ⟨rw0 P p0 (k + 1), by rw [← e]; exact hs, bP_iff.mpr ?_⟩
        by_cases z : k + 1 < i
        · exact ⟨k + 1, z, rfl⟩
        · obtain ⟨k2, _, hk2, e2⟩ := hW
          refine ⟨k2, hk2, ?_⟩
          rw [e2, show k + 1 = i by omega, rw0_of hf])
      obtain ⟨k2, _, hk2, _⟩ := hW
      exact fun m => hcl m p0 (bP_iff.mpr ⟨0, by omega, rfl⟩)
    · have hv := (hO.2 at' hat).2 hW
      rcases hv with h1 | ⟨h1, h2⟩ | ⟨h1, h2⟩
      · have hft := ft_up (σ := σ) (r := r) (p := at') (v := 1) hr (by omega)
        have fr : ∀ c, c ≠ 52 → hb_up σ 52 at' (nI (4 * r + 1)) c = σ c := fun c h => um_c _ _ _ h
        have hO1 : fO P r p0 0 (i + 1) (hb_up σ 52 at' (nI (4 * r + 1))) := by
          refine ⟨fB_up (by omega) hO.1, fun p hp => ⟨fun hk => ?_, fun hk => ?_⟩⟩
          · rw [hft]
            by_cases z : p = at'
            · rw [if_pos z]
            · rw [if_neg z]
              obtain ⟨k, k1, k2, k3⟩ := hk
              refine (hO.2 p hp).1 ⟨k, k1, ?_, k3⟩
              by_cases y : k = i
              · rw [y, rw0_of hf] at k3; exact absurd k3.symm z
              · omega
          · have z : p ≠ at' := fun z => hk ⟨i, by omega, by omega, by rw [rw0_of hf, z]⟩
            have := (hO.2 p hp).2 (fun ⟨k, k1, k2, k3⟩ => hk ⟨k, k1, by omega, k3⟩)
            unfold fV at this ⊢
            rw [hft, if_neg z]; exact this
        have hinj1 : ∀ a b, a < i + 1 → b < i + 1 → rw0 P p0 a = rw0 P p0 b → a = b := fun a b ha hb e => by
          by_cases za : a = i
          · by_cases zb : b = i
            · omega
            · exact absurd ⟨b, by omega, by omega, by rw [← e, za, rw0_of hf]⟩ hW
          · by_cases zb : b = i
            · exact absurd ⟨a, by omega, by omega, by rw [e, zb, rw0_of hf]⟩ hW
            · exact hinj a b (by omega) (by omega) e
        have hlt1 : ∀ k, k < i + 1 → rw0 P p0 k < 17408 := fun k hk => by
          by_cases z : k = i
          · rw [z, rw0_of hf]; exact hat
          · exact hlt k (by omega)
        have hpre1 : ∀ k, k < i + 1 → fw (gOn P) k p0 ≠ none := fun k hk => by
          by_cases z : k = i
          · rw [z, hf]; exact fun y => by cases y
          · exact hpre k (by omega)
        have hc1 : cnt (fun p => decide (ft (hb_up σ 52 at' (nI (4 * r + 1))) r p = 1)) 17408 = i + 1 := by
          have := cnt_set (f := fun p => decide (ft σ r p = 1)) (p := at') (decide_eq_false (by omega)) 17408 hat
          rw [← hc, ← this]
          apply cnt_eq
          intro q _
          show decide (ft (hb_up σ 52 at' (nI (4 * r + 1))) r q = 1) = (decide (ft σ r q = 1) || decide (q = at'))
          rw [hft]
          by_cases z : q = at'
          · rw [if_pos z, decide_eq_true z, Bool.or_true]; rfl
          · rw [if_neg z, decide_eq_false z, Bool.or_false]
        have hcl1 := cnt_le (fun p => decide (ft (hb_up σ 52 at' (nI (4 * r + 1))) r p = 1)) 17408
        have hcS := c52 fr
        have hg8 := s8 (cS_gI hcS hg) hat
        rw [cS_gP hcS, hP'] at hg8
        have h59 := s59 (σ := σ) (r := r) (p := at') (v := 1) h4 hr hat (by omega)
        rw [show nI 1 = (1 : Int32) from rfl] at h59
        rw [h1, if_pos (by decide), if_neg (fun z => z rfl), h59, hb_cv_s, hg8, hb_ci_s]
        cases hn : gOn P at' with
        | none =>
          rw [if_neg (fun z => z rfl)]
          refine ⟨_, i + 1, 2, ex 2 _ _ (Or.inl rfl), fr, Or.inl ⟨rfl, fun z => hang_none hn (hhang.mp z)⟩, hO1, hinj1, fun k hk => ⟨hlt1 k hk, hpre1 k hk⟩, by omega⟩
        | some q =>
          have hq := hP.1 _ _ hat hn
          rw [if_pos (fun z => by rw [show hbo (some q) = nI q from rfl, q_no (by omega)] at z; exact z), nI_1]
          obtain ⟨σ2, i2, w, d1, d2, d3⟩ := ih (i + 1) q _ (by omega) (cS_gI hcS hg) ((cS_gP hcS).trans hP') (by rw [fr 44 (by omega)]; exact h4) (by rw [fw_s _ _ _ _ hf]; exact hn) hq hO1 hinj1 hlt1 hc1
          exact ⟨σ2, i2, w, d1, fun c hc => (d2 c hc).trans (fr c hc), d3⟩
      · rw [h1, if_pos (by decide), if_pos (by decide)]
        exact ⟨σ, i, 2, ex 2 _ σ (Or.inl rfl), fun _ _ => rfl, Or.inl ⟨rfl, fun z => h2 (hhang.mp z)⟩, hO, hinj, fun k hk => ⟨hlt k hk, hpre k hk⟩, by omega⟩
      · rw [h1, if_pos (by decide), if_pos (by decide)]
        exact ⟨σ, i, 3, ex 3 _ σ (Or.inr rfl), fun _ _ => rfl, Or.inr ⟨rfl, hhang.mpr h2⟩, hO, hinj, fun k hk => ⟨hlt k hk, hpre k hk⟩, by omega⟩
theorem s57_p2 {P : hbGP} {r p0 w i' : Nat} (hr : r < 100000000) (hP : gOk P) (hp0 : p0 < 17408) (hw : (w = 2 ∧ ¬ hang (gOn P) p0) ∨ (w = 3 ∧ hang (gOn P) p0)) (hinj : ∀ a b, a < i' → b < i' → rw0 P p0 a = rw0 P p0 b → a = b) (hpre : ∀ k, k < i' → rw0 P p0 k < 17408 ∧ fw (gOn P) k p0 ≠ none) (hi' : i' ≤ 17408) : ∀ (f j : Nat) (σ : hbM), j + f = i' → gI σ → gP σ = P → σ 44 4 = nI r → fO P r p0 j i' σ →
    ∃ σ', hb_run hbSH 57 (77, [.ref 50, .int (nI p0), .int (nI w), .int (hbo (fw (gOn P) j p0)), .int (nI j)], [], σ) = some (some (.int (nI w)), σ') ∧ (∀ c, c ≠ 52 → σ' c = σ c) ∧ fI P r σ' := by
  intro f
  induction f with
  | zero =>
    intro j σ hj hg hP' h4 hO
    have hI : fI P r σ := ⟨hO.1, fun p hp => (hO.2 p hp).2 (fun ⟨k, k1, k2, _⟩ => by omega)⟩
    refine ⟨σ, ?_, fun _ _ => rfl, hI⟩
    rw [e57_77, if_neg (by rw [q_17408, q_lt (by omega) (by omega)]; omega)]
    cases hf : fw (gOn P) j p0 with
    | none => rw [if_pos (show hbo none = (-1000000 : Int32) from rfl)]
    | some q =>
      have hq : q < 17408 := by
        clear hO hI h4 hw hinj
        cases j with
        | zero => simp only [fw] at hf; cases hf; exact hp0
        | succ j =>
          have hk := hpre j (by omega)
          have hs := rw0_s hf
          rw [rw0_of hf] at hs
          exact hP.1 _ _ hk.1 hs
      rw [if_neg (fun z => by rw [show hbo (some q) = nI q from rfl, q_no (by omega)] at z; exact z), show hbo (some q) = nI q from rfl, s58 h4 hr hO.1 hq, hb_ci_s, if_pos (fun z => fV_ne (hI.2 q hq) (by
        have hb : ft σ r q < 4 := by unfold ft; split <;> omega
        rw [q_1, q_eq (by omega) (by omega)] at z; exact z))]
  | succ f ih =>
    intro j σ hj hg hP' h4 hO
    obtain ⟨hlt, hne⟩ := hpre j (by omega)
    cases hf : fw (gOn P) j p0 with
    | none => exact absurd hf hne
    | some q =>
      rw [rw0_of hf] at hlt
      have h1 := (hO.2 q hlt).1 ⟨j, Nat.le_refl _, by omega, rw0_of hf⟩
      have hft := ft_up (σ := σ) (r := r) (p := q) (v := w) hr (by omega)
      have fr : ∀ c, c ≠ 52 → hb_up σ 52 q (nI (4 * r + w)) c = σ c := fun c h => um_c _ _ _ h
      have hcS := c52 fr
      have hg8 := s8 (cS_gI hcS hg) hlt
      rw [cS_gP hcS, hP'] at hg8
      have hO1 : fO P r p0 (j + 1) i' (hb_up σ 52 q (nI (4 * r + w))) := by
        refine ⟨fB_up (by omega) hO.1, fun p hp => ⟨fun hk => ?_, fun hk => ?_⟩⟩
        · obtain ⟨k, k1, k2, k3⟩ := hk
          rw [hft, if_neg (fun z => by
            have := hinj k j k2 (by omega) (by rw [k3, z, rw0_of hf])
            omega)]
          exact (hO.2 p hp).1 ⟨k, by omega, k2, k3⟩
        · unfold fV
          rw [hft]
          by_cases z : p = q
          · rw [if_pos z, z, ← hang_fw (on := gOn P) j p0 q hf]
            rcases hw with ⟨a, b⟩ | ⟨a, b⟩
            · exact Or.inr (Or.inl ⟨a, b⟩)
            · exact Or.inr (Or.inr ⟨a, b⟩)
          · rw [if_neg z]
            refine (hO.2 p hp).2 (fun ⟨k, k1, k2, k3⟩ => ?_)
            by_cases y : k = j
            · rw [y, rw0_of hf] at k3; exact z k3.symm
            · exact hk ⟨k, by omega, k2, k3⟩
      obtain ⟨σ2, d1, d2, d3⟩ := ih (j + 1) _ (by omega) (cS_gI hcS hg) ((cS_gP hcS).trans hP') (by rw [fr 44 (by omega)]; exact h4) hO1
      refine ⟨σ2, ?_, fun c hc => (d2 c hc).trans (fr c hc), d3⟩
      rw [fw_s _ _ _ _ hf] at d1
      rw [show hbo (some q) = nI q from rfl, e57_77, if_neg (by rw [q_17408, q_lt (by omega) (by omega)]; omega), if_neg (fun z => by rw [q_no (by omega)] at z; exact z), s58 h4 hr hO.1 hlt, hb_ci_s, h1, if_neg (fun z => z rfl), s59 h4 hr hlt (by omega), hb_cv_s, hg8, hb_ci_s, nI_1]
      exact d1
/-- fateFrom -/
theorem s57 {P : hbGP} {σ : hbM} {r p : Nat} (hr : r < 100000000) (hP : gOk P) (hg : gI σ) (hP' : gP σ = P) (h4 : σ 44 4 = nI r) (hI : fI P r σ) (hp : p < 17408) : ∃ σ' w, hb_ev hbSH 57 [.ref 50, .int (nI p)] σ = some (some (.int (nI w)), σ') ∧ (∀ c, c ≠ 52 → σ' c = σ c) ∧ fI P r σ' ∧ ((w = 2 ∧ ¬ hang (gOn P) p) ∨ (w = 3 ∧ hang (gOn P) p)) := by
  obtain ⟨σ1, i, w, d1, d2, d3, d4, d5, d6, d7⟩ := s57_p1 (P := P) (r := r) (p0 := p) hr hP hp 17409 0 p σ (by omega) hg hP' h4 rfl hp ⟨hI.1, fun q hq => ⟨fun ⟨k, _, k2, _⟩ => by omega, fun _ => hI.2 q hq⟩⟩ (fun a b ha => by omega) (fun k hk => by omega) (cnt_0 _ _ (fun q hq => decide_eq_false (fV_ne (hI.2 q hq))))
  have hcS := c52 d2
  obtain ⟨σ2, f1, f2, f3⟩ := s57_p2 hr hP hp d3 d5 d6 d7 i 0 σ1 (by omega) (cS_gI hcS hg) ((cS_gP hcS).trans hP') (by rw [d2 44 (by omega)]; exact h4) d4
  refine ⟨σ2, w, ?_, fun c hc => (f2 c hc).trans (d2 c hc), f3, d3⟩
  rw [v57, e57_0]
  exact d1.trans f1
