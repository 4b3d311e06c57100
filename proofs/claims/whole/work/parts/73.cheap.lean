/-! cheapest: keys and ways -/
def eK (pr : Nat → Nat) (K p s : Nat) : Nat := K + 128 * pr s + (if K = 0 then 4 * (p / 1024) + s + 1 else 0)
def Ed (P : hbGP) (pr : Nat → Nat) (p K q K' : Nat) : Prop := (gOn P p = some q ∧ K' = K) ∨ ∃ s, s < 4 ∧ gSl P p s = some q ∧ K' = eK pr K p s
def vK (K : Nat) : Prop := K = 0 ∨ (1 ≤ K / 128 ∧ 1 ≤ K % 128 ∧ K % 128 ≤ 64)
def rf (K : Nat) : Nat := 64 * (K / 128) + (K % 128 - 1)
def prOk (pr : Nat → Nat) : Prop := ∀ s, s < 4 → 1 ≤ pr s ∧ pr s ≤ 99
theorem vK_e {pr : Nat → Nat} (hpr : prOk pr) {K p s : Nat} (hK : vK K) (hp : p / 1024 < 16) (hs : s < 4) : vK (eK pr K p s) := by
  have := hpr s hs
  unfold eK
  rcases hK with h | h
  · rw [if_pos h]; refine Or.inr ?_; omega
  · rw [if_neg (by omega)]; refine Or.inr ?_; omega
theorem rf_e {pr : Nat → Nat} (hpr : prOk pr) {K p s : Nat} (hK : vK K) (hp : p / 1024 < 16) (hs : s < 4) : rf (eK pr K p s) = rf K + 64 * pr s + (if rf K = 0 then 4 * (p / 1024) + s else 0) := by
  have := hpr s hs
  unfold eK rf
  rcases hK with h | h
  · subst h; rw [if_pos rfl, if_pos (by omega)]; omega
  · rw [if_neg (by omega), if_neg (by omega)]; omega
theorem rf_lt {K K' : Nat} (h : vK K) (h' : vK K') : rf K < rf K' ↔ K < K' := by
  unfold rf
  rcases h with h | h <;> rcases h' with h' | h' <;> constructor <;> intro z <;> omega
theorem rf_0 {K : Nat} (h : vK K) : rf K = 0 ↔ K = 0 := by
  unfold rf
  rcases h with h | h <;> constructor <;> intro z <;> omega
theorem eK_mono {pr : Nat → Nat} {K K' p s : Nat} (hK : vK K) (hK' : vK K') (h : K ≤ K') (hp : p / 1024 < 16) (hs : s < 4) : eK pr K p s ≤ eK pr K' p s := by
  unfold eK
  rcases hK with h1 | h1 <;> rcases hK' with h2 | h2
  · rw [if_pos h1, if_pos h2]; omega
  · rw [if_pos h1, if_neg (by omega)]; omega
  · omega
  · rw [if_neg (by omega), if_neg (by omega)]; omega
theorem gSl_16 {P : hbGP} {p s q : Nat} (h : gSl P p s = some q) : p / 1024 < P.1 := by
  unfold gSl at h
  split at h
  · rename_i z; exact z.1
  · cases h
section
variable (P : hbGP) (pr : Nat → Nat) (bd : Nat → Bool) (st : Nat)
/-- a way from the start to p, over places that are not bad, with key K -/
def Wk (p K : Nat) : Prop := ∀ C : Nat → Nat → Prop, C st 0 → (∀ p K q K', C p K → bd (p % 1024) = false → Ed P pr p K q K' → C q K') → C p K
def cSp : Option Nat → Prop
  | some K => (∃ p, Wk P pr bd st p K ∧ bd (p % 1024) = true) ∧ ∀ p K', Wk P pr bd st p K' → bd (p % 1024) = true → K ≤ K'
  | none => ∀ p K, Wk P pr bd st p K → bd (p % 1024) = false
end
section
variable {P : hbGP} {pr : Nat → Nat} {bd : Nat → Bool} {st : Nat}
theorem cSp_un {a b : Option Nat} (ha : cSp P pr bd st a) (hb : cSp P pr bd st b) : a = b := by
  cases a with
  | none =>
    cases b with
    | none => rfl
    | some K =>
      obtain ⟨⟨p, h1, h2⟩, _⟩ := hb
      rw [ha p K h1] at h2; cases h2
  | some K =>
    obtain ⟨⟨p, h1, h2⟩, h3⟩ := ha
    cases b with
    | none => rw [hb p K h1] at h2; cases h2
    | some K' =>
      obtain ⟨⟨p', g1, g2⟩, g3⟩ := hb
      have e1 := h3 p' K' g1 g2
      have e2 := g3 p K h1 h2
      rw [show K = K' by omega]
theorem Wk_0 : Wk P pr bd st st 0 := fun _ h _ => h
theorem Wk_s {p K q K' : Nat} (h : Wk P pr bd st p K) (hb : bd (p % 1024) = false) (e : Ed P pr p K q K') : Wk P pr bd st q K' := fun C h1 h2 => h2 p K q K' (h C h1 h2) hb e
theorem Ed_ok (hP : gOk P) (hn : P.1 ≤ 16) (hpr : prOk pr) {p K q K' : Nat} (hp : p < 17408) (hK : vK K) (e : Ed P pr p K q K') : q < 17408 ∧ vK K' ∧ K ≤ K' := by
  rcases e with ⟨h1, h2⟩ | ⟨s, hs, h1, h2⟩
  · rw [h2]; exact ⟨hP.1 _ _ hp h1, hK, Nat.le_refl _⟩
  · rw [h2]
    refine ⟨hP.2.1 _ _ _ hp h1, vK_e hpr hK (by have := gSl_16 h1; omega) hs, by unfold eK; omega⟩
theorem Wk_ok (hP : gOk P) (hn : P.1 ≤ 16) (hpr : prOk pr) (hst : st < 17408) {p K : Nat} (h : Wk P pr bd st p K) : p < 17408 ∧ vK K := by
  refine h (fun p K => p < 17408 ∧ vK K) ⟨hst, Or.inl rfl⟩ (fun p K q K' h1 _ e => ?_)
  obtain ⟨a, b, _⟩ := Ed_ok hP hn hpr h1.1 h1.2 e
  exact ⟨a, b⟩
theorem Ed_mono {p K K2 q K' : Nat} (hn : P.1 ≤ 16) (hK : vK K) (hK2 : vK K2) (h : K ≤ K2) (e : Ed P pr p K2 q K') : ∃ K3, Ed P pr p K q K3 ∧ K3 ≤ K' := by
  rcases e with ⟨h1, h2⟩ | ⟨s, hs, h1, h2⟩
  · exact ⟨K, Or.inl ⟨h1, rfl⟩, by omega⟩
  · exact ⟨eK pr K p s, Or.inr ⟨s, hs, h1, rfl⟩, by rw [h2]; exact eK_mono hK hK2 h (by have := gSl_16 h1; omega) hs⟩
end
/-! the heap -/
def sw (H : Nat → Nat) (a b : Nat) : Nat → Nat := fun k => if k = a then H b else if k = b then H a else H k
theorem sw_a (H : Nat → Nat) (a b : Nat) : sw H a b a = H b := by unfold sw; rw [if_pos rfl]
theorem sw_b (H : Nat → Nat) (a b : Nat) : sw H a b b = H a := by
  unfold sw
  by_cases h : b = a
  · rw [if_pos h, h]
  · rw [if_neg h, if_pos rfl]
theorem sw_o (H : Nat → Nat) {a b k : Nat} (h1 : k ≠ a) (h2 : k ≠ b) : sw H a b k = H k := by unfold sw; rw [if_neg h1, if_neg h2]
theorem sw_inj {H : Nat → Nat} {a b sz : Nat} (ha : a < sz) (hb : b < sz) (h : ∀ x y, x < sz → y < sz → H x = H y → x = y) : ∀ x y, x < sz → y < sz → sw H a b x = sw H a b y → x = y := by
  intro x y hx hy e
  by_cases x1 : x = a
  · rw [x1, sw_a] at e
    by_cases y1 : y = a
    · omega
    · by_cases y2 : y = b
      · rw [y2, sw_b] at e; have := h _ _ hb ha e; omega
      · rw [sw_o H y1 y2] at e; have := h _ _ hb hy e; omega
  · by_cases x2 : x = b
    · rw [x2, sw_b] at e
      by_cases y1 : y = a
      · rw [y1, sw_a] at e; have := h _ _ ha hb e; omega
      · by_cases y2 : y = b
        · omega
        · rw [sw_o H y1 y2] at e; have := h _ _ ha hy e; omega
    · rw [sw_o H x1 x2] at e
      by_cases y1 : y = a
      · rw [y1, sw_a] at e; have := h _ _ hx hb e; omega
      · by_cases y2 : y = b
        · rw [y2, sw_b] at e; have := h _ _ hx ha e; omega
        · rw [sw_o H y1 y2] at e; exact h _ _ hx hy e
theorem sw_rng {H : Nat → Nat} {a b sz : Nat} (ha : a < sz) (hb : b < sz) (q : Nat) : (∃ k, k < sz ∧ sw H a b k = q) ↔ ∃ k, k < sz ∧ H k = q := by
  constructor
  · rintro ⟨k, hk, e⟩
    unfold sw at e
    split at e
    · exact ⟨b, hb, e⟩
    · split at e
      · exact ⟨a, ha, e⟩
      · exact ⟨k, hk, e⟩
  · rintro ⟨k, hk, e⟩
    by_cases h1 : k = a
    · exact ⟨b, hb, by rw [sw_b, ← h1]; exact e⟩
    · by_cases h2 : k = b
      · exact ⟨a, ha, by rw [sw_a, ← h2]; exact e⟩
      · exact ⟨k, hk, by rw [sw_o H h1 h2]; exact e⟩
theorem s7 (σ : hbM) {p k : Nat} (hp : p < 17408) (hk : k < 17408) : hb_ev hbSH 7 [.ref 53, .int (nI p), .int (nI k)] σ = some (none, hb_up (hb_up σ 45 k (nI p)) 46 p (nI k)) := by
  rw [v7, e7_0, q_inT (by omega) hk, q_inT (by omega) hp, hb_g_t, hb_g_t, hb_g_nil, q_cl (by omega), q_cl (by omega)]
/-- a heap with a hole: what would stand at the hole is H hole -/
def hH (ky : Nat → Nat) (sz hole : Nat) (H : Nat → Nat) (σ : hbM) : Prop :=
  (∀ k, k < sz → k ≠ hole → σ 45 k = nI (H k) ∧ σ 46 (H k) = nI k) ∧ (∀ x y, x < sz → y < sz → H x = H y → x = y) ∧ ∀ k, k < sz → H k < 17408 ∧ σ 47 (H k) = nI (ky (H k)) ∧ ky (H k) < 2000000000
def hO (ky : Nat → Nat) (sz : Nat) (H : Nat → Nat) : Prop := ∀ k, 1 ≤ k → k < sz → ky (H ((k - 1) / 2)) ≤ ky (H k)
/-- the heap without a hole, over the same places as before -/
def hD (ky : Nat → Nat) (sz : Nat) (H0 H : Nat → Nat) (σ0 σ : hbM) : Prop :=
  (∀ k, k < sz → σ 45 k = nI (H k) ∧ σ 46 (H k) = nI k) ∧ (∀ x y, x < sz → y < sz → H x = H y → x = y) ∧ (∀ q, (∃ k, k < sz ∧ H k = q) ↔ ∃ k, k < sz ∧ H0 k = q) ∧ hO ky sz H ∧ (∀ c, c ≠ 45 → c ≠ 46 → σ c = σ0 c) ∧ ∀ q, (∀ k, k < sz → H0 k ≠ q) → σ 46 q = σ0 46 q
theorem hH_mv {ky : Nat → Nat} {sz hole b : Nat} {H : Nat → Nat} {σ : hbM} (h : hH ky sz hole H σ) (hh : hole < sz) (hb : b < sz) (hne : b ≠ hole) : hH ky sz b (sw H hole b) (hb_up (hb_up σ 45 hole (nI (H b))) 46 (H b) (nI hole)) := by
  obtain ⟨h1, h2, h3⟩ := h
  refine ⟨fun k hk hkb => ?_, sw_inj hh hb h2, fun k hk => ?_⟩
  · by_cases z : k = hole
    · rw [z, sw_a]
      exact ⟨by rw [um_c _ _ _ (by omega), um_s], um_s _ _ _ _⟩
    · rw [sw_o H z hkb]
      obtain ⟨a1, a2⟩ := h1 k hk z
      exact ⟨by rw [um_c _ _ _ (by omega), um_i _ _ _ z]; exact a1, by rw [um_i _ _ _ (fun e => hkb (h2 _ _ hk hb e)), um_c _ _ _ (by omega)]; exact a2⟩
  · obtain ⟨j, hj, e⟩ := (sw_rng (H := H) hh hb (sw H hole b k)).mp ⟨k, hk, rfl⟩
    rw [← e, um_c _ _ _ (by omega), um_c _ _ _ (by omega)]
    exact h3 j hj
theorem hH_end {ky : Nat → Nat} {sz hole : Nat} {H : Nat → Nat} {σ : hbM} (h : hH ky sz hole H σ) (hh : hole < sz) (ho : hO ky sz H) : hD ky sz H H σ (hb_up (hb_up σ 45 hole (nI (H hole))) 46 (H hole) (nI hole)) := by
  obtain ⟨h1, h2, h3⟩ := h
  refine ⟨fun k hk => ?_, h2, fun _ => Iff.rfl, ho, fun c h4 h5 => by rw [um_c _ _ _ h5, um_c _ _ _ h4], fun q hq => by rw [um_i _ _ _ (fun e => hq hole hh e.symm), um_c _ _ _ (by omega)]⟩
  by_cases z : k = hole
  · rw [z]; exact ⟨by rw [um_c _ _ _ (by omega), um_s], um_s _ _ _ _⟩
  · obtain ⟨a1, a2⟩ := h1 k hk z
    exact ⟨by rw [um_c _ _ _ (by omega), um_i _ _ _ z]; exact a1, by rw [um_i _ _ _ (fun e => z (h2 _ _ hk hh e)), um_c _ _ _ (by omega)]; exact a2⟩
theorem hD_mv {ky : Nat → Nat} {sz hole b : Nat} {H H' : Nat → Nat} {σ σ' : hbM} (hh : hole < sz) (hb : b < sz) (h : hD ky sz (sw H hole b) H' (hb_up (hb_up σ 45 hole (nI (H b))) 46 (H b) (nI hole)) σ') : hD ky sz H H' σ σ' := by
  obtain ⟨h1, h2, h3, h4, h5, h6⟩ := h
  refine ⟨h1, h2, fun q => (h3 q).trans (sw_rng hh hb q), h4, fun c a b' => by rw [h5 c a b', um_c _ _ _ b', um_c _ _ _ a], fun q hq => ?_⟩
  rw [h6 q (fun k hk e => by
    obtain ⟨j, hj, e2⟩ := (sw_rng (H := H) hh hb q).mp ⟨k, hk, e⟩
    exact hq j hj e2), um_i _ _ _ (fun e => hq b hb e.symm), um_c _ _ _ (by omega)]
/-- rise -/
theorem s4_loop {ky : Nat → Nat} {sz : Nat} (hsz : sz ≤ 17408) (x1 : Int32) : ∀ (f hole : Nat) (H : Nat → Nat) (σ : hbM), hole < f → hole < sz → hH ky sz hole H σ → (∀ k, 1 ≤ k → k < sz → k ≠ hole → ky (H ((k - 1) / 2)) ≤ ky (H k)) → (∀ c, 1 ≤ c → c < sz → (c - 1) / 2 = hole → 0 < hole → ky (H ((hole - 1) / 2)) ≤ ky (H c)) →
    ∃ σ' H', hb_run hbSH 4 (2, [.ref 53, .int x1, .int (nI (H hole)), .int (nI hole)], [], σ) = some (none, σ') ∧ hD ky sz H H' σ σ' := by
  intro f
  induction f with
  | zero => intro hole H σ h; omega
  | succ f ih =>
    intro hole H σ hf hh hM ho1 ho2
    have hp := (hM.2.2 hole hh).1
    by_cases h0 : hole = 0
    · refine ⟨_, H, ?_, hH_end hM hh (fun k h1 h2 => ho1 k h1 h2 (by omega))⟩
      rw [e4_2, if_pos (by rw [q_0, q_le (by omega) (by omega)]; omega), e4_54, s7 σ hp (by omega), hb_cv_s]
    · have e1 : nI hole - (1 : Int32) = nI (hole - 1) := by rw [q_1, q_sub (by omega)]
      have e2 : nI (hole - 1) / (2 : Int32) = nI ((hole - 1) / 2) := q_div (d := 2) (by omega) (by omega) (by omega)
      have d2 : decide (¬ (2 : Int32) = 0) = true := by decide
      have hpar : (hole - 1) / 2 < sz := by omega
      have hne : (hole - 1) / 2 ≠ hole := by omega
      obtain ⟨a1, a2⟩ := hM.1 _ hpar hne
      obtain ⟨b1, b2, b3⟩ := hM.2.2 _ hpar
      obtain ⟨c1, c2, c3⟩ := hM.2.2 _ hh
      rw [e4_2, if_neg (by rw [q_0, q_le (by omega) (by omega)]; omega), e1, e2, d2, q_inT (by omega) (by omega), q_cl (by omega), a1, q_inT (by omega) b1, q_inT (by omega) c1, hb_g_t, hb_g_t, hb_g_t, hb_g_t, hb_g_nil, q_cl (by omega), q_cl (by omega), b2, c2]
      by_cases hk : ky (H ((hole - 1) / 2)) ≤ ky (H hole)
      · rw [if_pos (by rw [q_le (by omega) (by omega)]; exact hk), e4_54, s7 σ hp (by omega), hb_cv_s]
        refine ⟨_, H, rfl, hH_end hM hh (fun k h1 h2 => ?_)⟩
        by_cases z : k = hole
        · rw [z]; exact hk
        · exact ho1 k h1 h2 z
      · rw [if_neg (by rw [q_le (by omega) (by omega)]; exact hk), hb_g_t, hb_g_t, hb_g_nil, s7 σ b1 (by omega), hb_cv_s, hb_g_t, hb_g_nil]
        have hA : ∀ k, 1 ≤ k → k < sz → k ≠ (hole - 1) / 2 → ky (sw H hole ((hole - 1) / 2) ((k - 1) / 2)) ≤ ky (sw H hole ((hole - 1) / 2) k) := by
          intro k h1 h2 h3
          by_cases zk : k = hole
          · rw [zk, sw_a, sw_b]; omega
          · rw [sw_o H zk h3]
            by_cases zp : (k - 1) / 2 = hole
            · rw [zp, sw_a]
              exact ho2 k h1 h2 zp (by omega)
            · by_cases zp2 : (k - 1) / 2 = (hole - 1) / 2
              · rw [zp2, sw_b]
                have := ho1 k h1 h2 zk
                rw [zp2] at this
                omega
              · rw [sw_o H zp zp2]
                exact ho1 k h1 h2 zk
        have hBB : ∀ c, 1 ≤ c → c < sz → (c - 1) / 2 = (hole - 1) / 2 → 0 < (hole - 1) / 2 → ky (sw H hole ((hole - 1) / 2) (((hole - 1) / 2 - 1) / 2)) ≤ ky (sw H hole ((hole - 1) / 2) c) := by
          intro c h1 h2 h3 h4
          have hg : ((hole - 1) / 2 - 1) / 2 ≠ hole ∧ ((hole - 1) / 2 - 1) / 2 ≠ (hole - 1) / 2 := by omega
          rw [sw_o H hg.1 hg.2]
          have hpp := ho1 ((hole - 1) / 2) (by omega) hpar hne
          by_cases zc : c = hole
          · rw [zc, sw_a]; exact hpp
          · rw [sw_o H zc (by omega)]
            have := ho1 c h1 h2 zc
            rw [h3] at this
            omega
        obtain ⟨σ', H', r1, r2⟩ := ih ((hole - 1) / 2) (sw H hole ((hole - 1) / 2)) _ (by omega) hpar (hH_mv hM hh hpar hne) hA hBB
        rw [sw_b] at r1
        exact ⟨σ', H', r1, hD_mv hh hpar r2⟩
theorem s4 {ky : Nat → Nat} {sz : Nat} (hsz : sz ≤ 17408) {hole : Nat} {H : Nat → Nat} {σ : hbM} (hh : hole < sz) (hM : hH ky sz hole H σ) (ho1 : ∀ k, 1 ≤ k → k < sz → k ≠ hole → ky (H ((k - 1) / 2)) ≤ ky (H k)) (ho2 : ∀ c, 1 ≤ c → c < sz → (c - 1) / 2 = hole → 0 < hole → ky (H ((hole - 1) / 2)) ≤ ky (H c)) :
    ∃ σ' H', hb_ev hbSH 4 [.ref 53, .int (nI hole), .int (nI (H hole))] σ = some (none, σ') ∧ hD ky sz H H' σ σ' := by
  rw [v4, e4_0]
  exact s4_loop hsz (nI hole) (hole + 1) hole H σ (by omega) hh hM ho1 ho2
/-- lesserChild -/
theorem s6 {ky : Nat → Nat} {sz hole : Nat} (hsz : sz ≤ 17408) {H : Nat → Nat} {σ : hbM} (h7 : σ 53 7 = nI sz) (hh : hole < sz) (hM : hH ky sz hole H σ) : ∃ c, hb_ev hbSH 6 [.ref 53, .int (nI hole)] σ = some (some (.int (nI c)), σ) ∧ (c = 2 * hole + 1 ∨ (c = 2 * hole + 2 ∧ c < sz)) ∧ (c < sz → ∀ c', c' < sz → (c' = 2 * hole + 1 ∨ c' = 2 * hole + 2) → ky (H c) ≤ ky (H c')) := by
  have e1 : (2 : Int32) * nI hole + 1 = nI (2 * hole + 1) := by rw [q_2, q_mul, nI_1]
  have e2 : nI (2 * hole + 1) + 1 = nI (2 * hole + 2) := nI_1 _
  rw [v6, e6_0, e1, e2, h7]
  by_cases hr : sz ≤ 2 * hole + 2
  · refine ⟨2 * hole + 1, by rw [if_pos (by rw [q_le (by omega) (by omega)]; exact hr)], Or.inl rfl, fun h1 c' h2 h3 => ?_⟩
    rw [show c' = 2 * hole + 1 by omega]
    exact Nat.le_refl _
  · obtain ⟨a1, _⟩ := hM.1 (2 * hole + 1) (by omega) (by omega)
    obtain ⟨b1, _⟩ := hM.1 (2 * hole + 2) (by omega) (by omega)
    obtain ⟨c1, c2, c3⟩ := hM.2.2 (2 * hole + 1) (by omega)
    obtain ⟨d1, d2, d3⟩ := hM.2.2 (2 * hole + 2) (by omega)
    rw [if_neg (by rw [q_le (by omega) (by omega)]; exact hr), q_inT (by omega) (by omega), q_inT (by omega) (by omega), q_cl (by omega), q_cl (by omega), a1, b1, q_inT (by omega) c1, q_inT (by omega) d1, hb_g_t, hb_g_t, hb_g_t, hb_g_t, hb_g_nil, q_cl (by omega), q_cl (by omega), c2, d2]
    by_cases hk : ky (H (2 * hole + 1)) ≤ ky (H (2 * hole + 2))
    · refine ⟨2 * hole + 1, by rw [if_pos (by rw [q_le (by omega) (by omega)]; exact hk)], Or.inl rfl, fun h1 c' h2 h3 => ?_⟩
      rcases h3 with h3 | h3 <;> rw [h3]
      · exact Nat.le_refl _
      · exact hk
    · refine ⟨2 * hole + 2, by rw [if_neg (by rw [q_le (by omega) (by omega)]; exact hk)], Or.inr ⟨rfl, by omega⟩, fun h1 c' h2 h3 => ?_⟩
      rcases h3 with h3 | h3 <;> rw [h3]
      · omega
      · exact Nat.le_refl _
/-- sink -/
theorem s5_loop {ky : Nat → Nat} {sz : Nat} (hsz : sz ≤ 17408) : ∀ (f hole c t : Nat) (H : Nat → Nat) (σ : hbM), sz < hole + f → t ≤ hole → hole < sz → σ 53 7 = nI sz → hH ky sz hole H σ → (c = 2 * hole + 1 ∨ (c = 2 * hole + 2 ∧ c < sz)) → (c < sz → ∀ c', c' < sz → (c' = 2 * hole + 1 ∨ c' = 2 * hole + 2) → ky (H c) ≤ ky (H c')) → (∀ k, 1 ≤ k → k < sz → (k - 1) / 2 ≠ hole → ky (H ((k - 1) / 2)) ≤ ky (H k)) → (∀ c, 1 ≤ c → c < sz → (c - 1) / 2 = hole → 0 < hole → ky (H ((hole - 1) / 2)) ≤ ky (H c)) →
    ∃ σ' H', hb_run hbSH 5 (11, [.ref 53, .int (nI (H hole)), .int (nI hole), .int (nI c), .int (nI t)], [], σ) = some (none, σ') ∧ hD ky sz H H' σ σ' := by
  intro f
  induction f with
  | zero => intro hole c t H σ h h1 h2; omega
  | succ f ih =>
    intro hole c t H σ hf ht hh h7 hM hc hcm ho1 ho2
    have hts : ¬ nI sz ≤ nI t := by rw [q_le (by omega) (by omega)]; omega
    have hp := (hM.2.2 hole hh).1
    by_cases hcs : sz ≤ c
    · rw [e5_11, h7, if_neg hts, if_pos (by rw [q_le (by omega) (by omega)]; exact hcs), e5_73, s7 σ hp (by omega), hb_cv_s]
      refine ⟨_, H, rfl, hH_end hM hh (fun k h1 h2 => ho1 k h1 h2 (by omega))⟩
    · have hcl : c < sz := by omega
      have hne : c ≠ hole := by omega
      obtain ⟨a1, a2⟩ := hM.1 c hcl hne
      obtain ⟨b1, b2, b3⟩ := hM.2.2 c hcl
      obtain ⟨c1, c2, c3⟩ := hM.2.2 hole hh
      rw [e5_11, h7, if_neg hts, if_neg (by rw [q_le (by omega) (by omega)]; exact hcs), q_inT (by omega) (by omega), q_cl (by omega), a1, q_inT (by omega) b1, q_inT (by omega) c1, hb_g_t, hb_g_t, hb_g_t, hb_g_nil, q_cl (by omega), q_cl (by omega), b2, c2]
      by_cases hk : ky (H hole) ≤ ky (H c)
      · rw [if_pos (by rw [q_le (by omega) (by omega)]; exact hk), e5_73, s7 σ hp (by omega), hb_cv_s]
        refine ⟨_, H, rfl, hH_end hM hh (fun k h1 h2 => ?_)⟩
        by_cases z : (k - 1) / 2 = hole
        · rw [z]
          have := hcm hcl k h2 (by omega)
          omega
        · exact ho1 k h1 h2 z
      · have hM1 := hH_mv hM hh hcl hne
        obtain ⟨c', r1, r2, r3⟩ := s6 hsz (σ := hb_up (hb_up σ 45 hole (nI (H c))) 46 (H c) (nI hole)) (by rw [um_c _ _ _ (by omega), um_c _ _ _ (by omega)]; exact h7) hcl hM1
        rw [if_neg (by rw [q_le (by omega) (by omega)]; exact hk), hb_g_t, hb_g_nil, s7 σ b1 (by omega), hb_cv_s, r1, hb_ci_s, nI_1]
        have hA : ∀ k, 1 ≤ k → k < sz → (k - 1) / 2 ≠ c → ky (sw H hole c ((k - 1) / 2)) ≤ ky (sw H hole c k) := by
          intro k h1 h2 h3
          by_cases zp : (k - 1) / 2 = hole
          · rw [zp, sw_a]
            by_cases zk : k = c
            · rw [zk, sw_b]; omega
            · rw [sw_o H (by omega) zk]
              exact hcm hcl k h2 (by omega)
          · rw [sw_o H zp h3]
            by_cases zk : k = hole
            · rw [zk, sw_a]
              by_cases z0 : hole = 0
              · omega
              · exact ho2 c (by omega) hcl (by omega) (by omega)
            · by_cases zk2 : k = c
              · omega
              · rw [sw_o H zk zk2]
                exact ho1 k h1 h2 zp
        have hBB : ∀ k, 1 ≤ k → k < sz → (k - 1) / 2 = c → 0 < c → ky (sw H hole c ((c - 1) / 2)) ≤ ky (sw H hole c k) := by
          intro k h1 h2 h3 h4
          have hcp : (c - 1) / 2 = hole := by omega
          rw [hcp, sw_a]
          rw [sw_o H (by omega) (by omega)]
          have := ho1 k h1 h2 (by omega)
          rw [h3] at this
          exact this
        obtain ⟨σ', H', t1, t2⟩ := ih c c' (t + 1) (sw H hole c) _ (by omega) (by omega) hcl (by rw [um_c _ _ _ (by omega), um_c _ _ _ (by omega)]; exact h7) hM1 r2 r3 hA hBB
        rw [sw_b] at t1
        exact ⟨σ', H', t1, hD_mv hh hcl t2⟩
theorem s5 {ky : Nat → Nat} {sz : Nat} (hsz : sz ≤ 17408) {H : Nat → Nat} {σ : hbM} (h0 : 0 < sz) (h7 : σ 53 7 = nI sz) (hM : hH ky sz 0 H σ) (ho1 : ∀ k, 1 ≤ k → k < sz → (k - 1) / 2 ≠ 0 → ky (H ((k - 1) / 2)) ≤ ky (H k)) :
    ∃ σ' H', hb_ev hbSH 5 [.ref 53, .int (nI (H 0))] σ = some (none, σ') ∧ hD ky sz H H' σ σ' := by
  obtain ⟨c, r1, r2, r3⟩ := s6 hsz h7 h0 hM
  rw [show nI 0 = (0 : Int32) from rfl] at r1
  rw [v5, e5_0, r1, hb_ci_s]
  exact s5_loop hsz (sz + 1) 0 c 0 H σ (by omega) (by omega) h0 h7 hM r2 r3 ho1 (fun _ _ _ _ h => by omega)
/-- the root is least -/
theorem hO_min {ky : Nat → Nat} {sz : Nat} {H : Nat → Nat} (h : hO ky sz H) : ∀ (f k : Nat), k < f → k < sz → ky (H 0) ≤ ky (H k) := by
  intro f
  induction f with
  | zero => intro k h; omega
  | succ f ih =>
    intro k hf hk
    by_cases z : k = 0
    · rw [z]; exact Nat.le_refl _
    · have h1 := h k (by omega) hk
      have h2 := ih ((k - 1) / 2) (by omega) (by omega)
      omega
