/-! cheapest: the class, the whole search -/
section
variable {P : hbGP} {pr : Nat → Nat} {bd : Nat → Bool} {r st : Nat}
theorem dR.n {L L' : Nat → Nat} {σ σ' : hbM} (h : dR r L L' σ σ') : nMk σ r ≤ nMk σ' r := cnt_mono _ (fun p hp hm => (h.2.2.1 p hp hm).1)
theorem dR.low {L L' : Nat → Nat} {σ σ' : hbM} {κ : Nat} (h : dR r L L' σ σ') (hl : ∀ p, p < 17408 → mk σ r p 0 = true → σ 46 p = -1 → L p ≤ κ) : ∀ p, p < 17408 → mk σ' r p 0 = true → σ' 46 p = -1 → L' p ≤ κ := fun p hp h1 h2 => by
  obtain ⟨a, b, c⟩ := h.2.2.2.1 p hp h1 h2
  rw [c]; exact hl p hp a b
theorem s1_loop (hP : gOk P) (hn : P.1 ≤ 16) (hpr : prOk pr) {x κ i : Nat} (hx : x < 17408) (hκ : vK κ) (hW : Wk P pr bd st x κ) (hb : bd (x % 1024) = false) : ∀ (g j : Nat) (σ : hbM) (sz : Nat) (H L : Nat → Nat) (v4 v5 : Value), j + g = 4 → dI P pr bd r st sz i H L σ → κ ≤ 12800 * nMk σ r → (∀ p, p < 17408 → mk σ r p 0 = true → σ 46 p = -1 → L p ≤ κ) → (∀ k, k < sz → κ ≤ L (H k)) →
    ∃ σ' sz' H' L', hb_run hbSH 1 (15, [.ref 53, .int (nI x), .int (nI κ), .int (nI j), v4, v5], [], σ) = some (none, σ') ∧ dI P pr bd r st sz' i H' L' σ' ∧ dR r L L' σ σ' ∧ (∀ k, k < sz' → κ ≤ L' (H' k)) ∧ ∀ s q, j ≤ s → s < 4 → gSl P x s = some q → mk σ' r q 0 = true ∧ L' q ≤ eK pr κ x s := by
  intro g
  induction g with
  | zero =>
    intro j σ sz H L v4 v5 hj hI hk hlow hhp
    obtain rfl : j = 4 := by omega
    exact ⟨σ, sz, H, L, by rw [e1_15, if_pos (by decide)], hI, dR.rf L σ, hhp, fun s q h1 h2 => by omega⟩
  | succ g ih =>
    intro j σ sz H L v4 v5 hj hI hk hlow hhp
    have hN : nMk σ r ≤ 17408 := cnt_le _ _
    obtain ⟨p1, p2⟩ := hpr j (by omega)
    have hx17 : x / 1024 < 17 := by omega
    have hE : eK pr κ x j ≤ κ + 12745 := by unfold eK; split <;> omega
    have h10 := s10 hI.1.1.1 hx (k := j) (by omega)
    rw [hI.1.1.2.1] at h10
    obtain ⟨σ1, sz1, H1, L1, a1, a2, a3, a4, a5⟩ := s2 (κ := κ) (K := eK pr κ x j) hI (gSl P x j) (fun q e => ⟨hP.2.1 _ _ _ hx e, vK_e hpr hκ (by have := gSl_16 e; omega) (by omega), Wk_s hW hb (Or.inr ⟨j, by omega, e, rfl⟩), by omega, by unfold eK; omega⟩) (by omega) hlow hhp
    obtain ⟨σ2, sz2, H2, L2, b1, b2, b3, b4, b5⟩ := ih (j + 1) σ1 sz1 H1 L1 (.int (nI (κ + pr j * 128))) (.int (nI (if κ = 0 then 4 * (x / 1024) + j + 1 else 0))) (by omega) a2 (by have := a3.n; omega) (a3.low hlow) a4
    refine ⟨σ2, sz2, H2, L2, ?_, b2, a3.tr b3, b4, fun s q h1 h2 h3 => ?_⟩
    · have e38 := hI.1.1.2.2.2.2 j (by omega)
      have d1 : decide (¬ (1024 : Int32) = 0) = true := by decide
      have eq1 : nI x / (1024 : Int32) = nI (x / 1024) := q_div (d := 1024) (by omega) (by omega) (by omega)
      have em : nI κ + nI (pr j) * (128 : Int32) = nI (κ + pr j * 128) := by rw [q_128, q_mul, q_add]
      have et : (((4 : Int32) * nI (x / 1024)) + nI j) + 1 = nI (4 * (x / 1024) + j + 1) := by rw [q_4, q_mul, q_add, nI_1]
      have eq56 : hb_run hbSH 1 (56, [.ref 53, .int (nI x), .int (nI κ), .int (nI j), .int (nI (κ + pr j * 128)), v5], [.int (nI (if κ = 0 then 4 * (x / 1024) + j + 1 else 0))], σ) = some (none, σ2) := by
        rw [e1_56, h10, hb_ci_s, q_add, show κ + pr j * 128 + (if κ = 0 then 4 * (x / 1024) + j + 1 else 0) = eK pr κ x j by unfold eK; omega, a1, hb_cv_s, nI_1]
        exact b1
      rw [e1_15, if_neg (by rw [q_4, q_le (by omega) (by omega)]; omega), q_inT (by omega) (by omega), hb_g_t, hb_g_nil, q_cl (by omega), e38, em]
      by_cases z : κ = 0
      · rw [if_pos z] at eq56
        rw [if_neg (fun y => y (by rw [z]; rfl)), d1, hb_g_t, hb_g_nil, eq1, et]
        exact eq56
      · rw [if_neg z] at eq56
        rw [if_pos (fun y => z (by rw [q_0, q_eq (by omega) (by omega)] at y; exact y))]
        exact eq56
    · by_cases z : s = j
      · rw [z] at h3 ⊢
        obtain ⟨c1, c2⟩ := a5 q h3
        obtain ⟨d1, d2⟩ := b3.2.2.1 q (hP.2.1 _ _ _ hx h3) c1
        exact ⟨d1, by omega⟩
      · exact b5 s q (by omega) h2 h3
/-- offerAll -/
theorem s1 (hP : gOk P) (hn : P.1 ≤ 16) (hpr : prOk pr) {x κ i : Nat} (hx : x < 17408) (hκ : vK κ) (hW : Wk P pr bd st x κ) (hb : bd (x % 1024) = false) {σ : hbM} {sz : Nat} {H L : Nat → Nat} (hI : dI P pr bd r st sz i H L σ) (hk : κ ≤ 12800 * nMk σ r) (hlow : ∀ p, p < 17408 → mk σ r p 0 = true → σ 46 p = -1 → L p ≤ κ) (hhp : ∀ k, k < sz → κ ≤ L (H k)) :
    ∃ σ' sz' H' L', hb_ev hbSH 1 [.ref 53, .int (nI x), .int (nI κ)] σ = some (none, σ') ∧ dI P pr bd r st sz' i H' L' σ' ∧ dR r L L' σ σ' ∧ (∀ k, k < sz' → κ ≤ L' (H' k)) ∧ ∀ q K', Ed P pr x κ q K' → mk σ' r q 0 = true ∧ L' q ≤ K' := by
  have hN : nMk σ r ≤ 17408 := cnt_le _ _
  have h8 := s8 hI.1.1.1 hx
  rw [hI.1.1.2.1] at h8
  obtain ⟨σ1, sz1, H1, L1, a1, a2, a3, a4, a5⟩ := s2 (κ := κ) (K := κ) hI (gOn P x) (fun q e => ⟨hP.1 _ _ hx e, hκ, Wk_s hW hb (Or.inl ⟨e, rfl⟩), by omega, Nat.le_refl _⟩) (by omega) hlow hhp
  obtain ⟨σ2, sz2, H2, L2, b1, b2, b3, b4, b5⟩ := s1_loop hP hn hpr hx hκ hW hb 4 0 σ1 sz1 H1 L1 .null .null (by omega) a2 (by have := a3.n; omega) (a3.low hlow) a4
  refine ⟨σ2, sz2, H2, L2, ?_, b2, a3.tr b3, b4, fun q K' e => ?_⟩
  · rw [v1, e1_0, h8, hb_ci_s, a1, hb_cv_s]
    exact b1
  · rcases e with ⟨e1, e2⟩ | ⟨s, hs, e1, e2⟩
    · obtain ⟨c1, c2⟩ := a5 q e1
      obtain ⟨d1, d2⟩ := b3.2.2.1 q (hP.1 _ _ hx e1) c1
      exact ⟨d1, by omega⟩
    · rw [e2]; exact b5 s q (by omega) hs e1
def vF : Option Nat → Int32
  | none => hbNO
  | some K => if K = 0 then hbNO else nI (K % 128 - 1)
def dC (P : hbGP) (pr : Nat → Nat) (bd : Nat → Bool) (r : Nat) (L : Nat → Nat) (σ : hbM) : Prop := ∀ p, p < 17408 → mk σ r p 0 = true → σ 46 p = -1 → bd (p % 1024) = false ∧ ∀ q K', Ed P pr p (L p) q K' → mk σ r q 0 = true ∧ L q ≤ K'
theorem d_none (hP : gOk P) (hn : P.1 ≤ 16) (hpr : prOk pr) (hst : st < 17408) {i : Nat} {H L : Nat → Nat} {σ : hbM} (hI : dI P pr bd r st 0 i H L σ) (hm : mk σ r st 0 = true) (hL : L st = 0) (hC : dC P pr bd r L σ) : cSp P pr bd st none := by
  have hs : ∀ p, p < 17408 → mk σ r p 0 = true → σ 46 p = -1 := fun p hp h => (hI.2.2.2.2 p hp h).resolve_right (fun ⟨k, hk, _⟩ => by omega)
  intro p K hW
  have := hW (fun p K => p < 17408 ∧ vK K ∧ mk σ r p 0 = true ∧ L p ≤ K) ⟨hst, Or.inl rfl, hm, by omega⟩ (fun p K q K' h hb e => by
    obtain ⟨h1, h2, h3, h4⟩ := h
    obtain ⟨a1, a2, a3⟩ := Ed_ok hP hn hpr h1 h2 e
    obtain ⟨K3, b1, b2⟩ := Ed_mono hn (hI.1.2.2.1 p h1 h3).2.1 h2 h4 e
    obtain ⟨c1, c2⟩ := (hC p h1 h3 (hs p h1 h3)).2 q K3 b1
    exact ⟨a1, a2, c1, by omega⟩)
  exact (hC p this.1 this.2.2.1 (hs p this.1 this.2.2.1)).1
theorem d_min (hP : gOk P) (hn : P.1 ≤ 16) (hpr : prOk pr) (hst : st < 17408) {sz i : Nat} {H L : Nat → Nat} {σ : hbM} (hI : dI P pr bd r st sz i H L σ) (h0 : 0 < sz) (hm : mk σ r st 0 = true) (hL : L st = 0) (hC : dC P pr bd r L σ) (hb : bd (H 0 % 1024) = true) : cSp P pr bd st (some (L (H 0))) := by
  obtain ⟨_, _, c3, c4⟩ := hI.2.1 0 h0
  have hmin : ∀ k, k < sz → L (H 0) ≤ L (H k) := fun k hk => hO_min hI.2.2.2.1 (k + 1) k (by omega) hk
  refine ⟨⟨H 0, (hI.1.2.2.1 _ c3 c4).2.2.2, hb⟩, fun p K hW hbp => ?_⟩
  have := hW (fun p K => p < 17408 ∧ vK K ∧ ((mk σ r p 0 = true ∧ L p ≤ K) ∨ L (H 0) ≤ K)) ⟨hst, Or.inl rfl, Or.inl ⟨hm, by omega⟩⟩ (fun p K q K' h hbp e => by
    obtain ⟨h1, h2, h3⟩ := h
    obtain ⟨a1, a2, a3⟩ := Ed_ok hP hn hpr h1 h2 e
    refine ⟨a1, a2, ?_⟩
    rcases h3 with ⟨h3, h4⟩ | h3
    · rcases hI.2.2.2.2 p h1 h3 with z | ⟨k, hk, z⟩
      · obtain ⟨K3, b1, b2⟩ := Ed_mono hn (hI.1.2.2.1 p h1 h3).2.1 h2 h4 e
        obtain ⟨d1, d2⟩ := (hC p h1 h3 z).2 q K3 b1
        exact Or.inl ⟨d1, by omega⟩
      · have := hmin k hk
        rw [z] at this
        exact Or.inr (by omega)
    · exact Or.inr (by omega))
  obtain ⟨h1, h2, h3⟩ := this
  rcases h3 with ⟨h3, h4⟩ | h3
  · rcases hI.2.2.2.2 p h1 h3 with z | ⟨k, hk, z⟩
    · rw [(hC p h1 h3 z).1] at hbp; cases hbp
    · have := hmin k hk
      rw [z] at this
      omega
  · exact h3
theorem s0_loop (hP : gOk P) (hn : P.1 ≤ 16) (hpr : prOk pr) (hst : st < 17408) : ∀ (f i : Nat) (σ : hbM) (sz : Nat) (H L : Nat → Nat) (v3 v4 : Value), i + f = 17408 → dI P pr bd r st sz i H L σ → mk σ r st 0 = true → L st = 0 → dC P pr bd r L σ → (∀ p, p < 17408 → mk σ r p 0 = true → σ 46 p = -1 → ∀ k, k < sz → L p ≤ L (H k)) → σ 53 2 = hbNO → σ 53 3 = hbNO →
    ∃ σ' o, hb_run hbSH 0 (32, [.ref 53, .int (nI st), .int (nI i), v3, v4], [], σ) = some (none, σ') ∧ cW σ σ' ∧ rI σ' r ∧ cSp P pr bd st o ∧ σ' 53 2 = hbo (o.map (fun K => K / 128)) ∧ σ' 53 3 = vF o := by
  intro f
  induction f with
  | zero =>
    intro i σ sz H L v3 v4 hi hI hm hL hC hO h2 h3
    have hN : nMk σ r ≤ 17408 := cnt_le _ _
    have h4 := hI.1.2.2.2
    obtain rfl : sz = 0 := by omega
    exact ⟨σ, none, by rw [e0_32, if_pos (by rw [q_17408, q_le (by omega) (by omega)]; omega)], cW.rf σ, hI.1.1.2.2.1, d_none hP hn hpr hst hI hm hL hC, h2, h3⟩
  | succ f ih =>
    intro i σ sz H L v3 v4 hi hI hm hL hC hO h2 h3
    have hN : nMk σ r ≤ 17408 := cnt_le _ _
    have h4 := hI.1.2.2.2
    have h7 := hI.1.2.1
    by_cases h0 : sz = 0
    · subst h0
      refine ⟨σ, none, ?_, cW.rf σ, hI.1.1.2.2.1, d_none hP hn hpr hst hI hm hL hC, h2, h3⟩
      rw [e0_32, if_neg (by rw [q_17408, q_le (by omega) (by omega)]; omega), h7, if_pos (by decide)]
    · obtain ⟨_, _, c3, c4⟩ := hI.2.1 0 (by omega)
      obtain ⟨k1, k2, k3, k4⟩ := hI.1.2.2.1 _ c3 c4
      obtain ⟨σ1, H1, a1, a2, a3, a4, a5, a6, a7⟩ := s3 hI (by omega)
      have hmin : ∀ k, k < sz → L (H 0) ≤ L (H k) := fun k hk => hO_min hI.2.2.2.1 (k + 1) k (by omega) hk
      have d1 : decide (¬ (1024 : Int32) = 0) = true := by decide
      have eq1 : nI (H 0) / (1024 : Int32) = nI (H 0 / 1024) := q_div (d := 1024) (by omega) (by omega) (by omega)
      have eq2 : nI (H 0) - nI (H 0 / 1024) * (1024 : Int32) = nI (H 0 % 1024) := q_rem (d := 1024) (by omega) (by omega) (by omega)
      have d2 : decide (¬ (128 : Int32) = 0) = true := by decide
      have h47 : σ1 47 (H 0) = nI (L (H 0)) := (a2.1.2.2.1 _ c3 (by rw [a5]; exact c4)).1
      have eqd : nI (L (H 0)) / (128 : Int32) = nI (L (H 0) / 128) := q_div (d := 128) (by omega) (by omega) (by omega)
      have eqm : nI (L (H 0)) - nI (L (H 0) / 128) * (128 : Int32) = nI (L (H 0) % 128) := q_rem (d := 128) (by omega) (by omega) (by omega)
      rw [e0_32, if_neg (by rw [q_17408, q_le (by omega) (by omega)]; omega), h7, if_neg (by rw [q_0, q_le (by omega) (by omega)]; omega), if_neg (fun z => z h2), a1, hb_ci_s, q_inT (by omega) c3, d1, eq1, eq2, q_inT (by omega) (by omega), hb_g_t, hb_g_t, hb_g_t, hb_g_nil, q_cl (show H 0 % 1024 < 2147483648 by omega), q_cl (show H 0 < 2147483648 by omega), a2.1.1.2.2.2.1 _ (by omega), h47]
      cases hb : bd (H 0 % 1024) with
      | true =>
        have hsp := d_min hP hn hpr hst hI (by omega) hm hL hC hb
        rw [hbb_t, if_neg (by decide), d2, hb_g_t, hb_g_nil, eqd, eqm, nI_1]
        have hex : ∀ (σ2 : hbM) (w3 w4 : Value), ¬ σ2 53 2 = hbNO → hb_run hbSH 0 (32, [.ref 53, .int (nI st), .int (nI (i + 1)), w3, w4], [], σ2) = some (none, σ2) := fun σ2 w3 w4 hz => by
          rw [e0_32]
          by_cases z1 : (17408 : Int32) ≤ nI (i + 1)
          · rw [if_pos z1]
          · rw [if_neg z1]
            by_cases z2 : σ2 53 7 ≤ 0
            · rw [if_pos z2]
            · rw [if_neg z2, if_pos hz]
        have hne : ¬ nI (L (H 0) / 128) = hbNO := nno (by omega)
        by_cases hz : L (H 0) = 0
        · rw [if_neg (fun y => y (by rw [hz]; rfl)), hex _ _ _ (by rw [um_i _ _ _ (by omega), um_s]; exact hne)]
          refine ⟨_, some (L (H 0)), rfl, (a3.up _ _ (by omega)).up _ _ (by omega), (a2.1.1.2.2.1.up _ _ (by omega)).up _ _ (by omega), hsp, ?_, ?_⟩
          · rw [um_i _ _ _ (by omega), um_s]; rfl
          · rw [um_s]; show _ = (if L (H 0) = 0 then hbNO else nI (L (H 0) % 128 - 1)); rw [if_pos hz]
        · rw [if_pos (fun y => hz (by rw [q_0, q_eq (by omega) (by omega)] at y; exact y)), hb_g_t, hb_g_nil, hex _ _ _ (by rw [um_i _ _ _ (by omega), um_s]; exact hne)]
          refine ⟨_, some (L (H 0)), rfl, (a3.up _ _ (by omega)).up _ _ (by omega), (a2.1.1.2.2.1.up _ _ (by omega)).up _ _ (by omega), hsp, ?_, ?_⟩
          · rw [um_i _ _ _ (by omega), um_s]; rfl
          · rw [um_s]; show _ = (if L (H 0) = 0 then hbNO else nI (L (H 0) % 128 - 1))
            rw [if_neg hz]
            rcases k2 with k2 | k2
            · exact absurd k2 hz
            · rw [q_1, q_sub (by omega)]
      | false =>
        rw [hbb_f, if_pos rfl]
        obtain ⟨σ2, sz2, H2, L2, b1, b2, b3, b4, b5⟩ := s1 hP hn hpr c3 k2 k4 hb a2 (by rw [show nMk σ1 r = nMk σ r from cnt_eq _ (fun p _ => a5 p)]; exact k3) (fun p hp h h' => by
          rw [a5] at h
          rcases (a6 p hp h).mp h' with z | z
          · exact hO p hp h z 0 (by omega)
          · rw [z]; exact Nat.le_refl _) (fun k hk => by
          obtain ⟨j, hj, e⟩ := a7 k hk
          rw [e]; exact hmin j hj)
        rw [b1, hb_cv_s, nI_1]
        obtain ⟨st1, st2⟩ := b3.2.2.1 st hst (by rw [a5]; exact hm)
        obtain ⟨σ3, o, r1, r2, r3⟩ := ih (i + 1) σ2 sz2 H2 L2 (.int (nI (H 0))) (.int (nI (L (H 0)))) (by omega) b2 st1 (by omega) (fun p hp h h' => by
          obtain ⟨e1, e2, e3⟩ := b3.2.2.2.1 p hp h h'
          rw [a5] at e1
          rcases (a6 p hp e1).mp e2 with z | z
          · obtain ⟨x1, x2⟩ := hC p hp e1 z
            refine ⟨x1, fun q K' e => ?_⟩
            rw [e3] at e
            obtain ⟨y1, y2⟩ := x2 q K' e
            have hq := (Ed_ok hP hn hpr hp (hI.1.2.2.1 p hp e1).2.1 e).1
            obtain ⟨w1, w2⟩ := b3.2.2.1 q hq (by rw [a5]; exact y1)
            exact ⟨w1, by omega⟩
          · rw [z] at e3 ⊢
            exact ⟨hb, fun q K' e => b5 q K' (by rw [e3] at e; exact e)⟩) (fun p hp h h' k hk => by
          obtain ⟨e1, e2, e3⟩ := b3.2.2.2.1 p hp h h'
          rw [a5] at e1
          have hle : L p ≤ L (H 0) := by
            rcases (a6 p hp e1).mp e2 with z | z
            · exact hO p hp e1 z 0 (by omega)
            · rw [z]; exact Nat.le_refl _
          have := b4 k hk
          omega) (by rw [b3.2.1 2 (by omega), a4 2 (by omega)]; exact h2) (by rw [b3.2.1 3 (by omega), a4 3 (by omega)]; exact h3)
        exact ⟨σ3, o, r1, (a3.tr b3.1).tr r2, r3⟩
/-- seek -/
theorem s0 (hP : gOk P) (hn : P.1 ≤ 16) (hpr : prOk pr) (hst : st < 1024) {σ : hbM} (hg : gI σ) (hP' : gP σ = P) (hB : ∀ s, s < 1024 → σ 11 s = hbb (bd s)) (h38 : ∀ s, s < 4 → σ 38 s = nI (pr s)) (hr : rI σ r) (hr2 : r + 1 < 100000000) :
    ∃ σ' o, hb_ev hbSH 0 [.ref 53, .int (nI st)] σ = some (none, σ') ∧ cW σ σ' ∧ rI σ' (r + 1) ∧ cSp P pr bd st o ∧ σ' 53 2 = hbo (o.map (fun K => K / 128)) ∧ σ' 53 3 = vF o := by
  rw [v0, e0_0]
  generalize hσ0 : hb_up (hb_up σ 53 2 (-1000000)) 53 3 (-1000000) = σ0
  have hc0 : cW σ σ0 := by rw [← hσ0]; exact ((cW.rf σ).up _ _ (by omega)).up _ _ (by omega)
  have hr0 : rI σ0 r := by rw [← hσ0]; exact (hr.up _ _ (by omega)).up _ _ (by omega)
  obtain ⟨b1, b2, b3⟩ := s27 hr0 hr2
  generalize hσ1 : hb_up (hb_up σ0 44 4 (nI (r + 1))) 53 7 0 = σ1
  have hc1 : cW σ σ1 := by rw [← hσ1]; exact (hc0.up _ _ (by omega)).up _ _ (by omega)
  have hmk : ∀ p, p < 17408 → mk σ1 (r + 1) p 0 = false := fun p hp => by rw [← hσ1, mk.up _ _ _ _ _ _ (by omega)]; exact b3 p 0 hp
  have hN : nMk σ1 (r + 1) = 0 := cnt_0 _ _ hmk
  have hI : dI P pr bd (r + 1) st 0 0 (fun _ => 0) (fun _ => 0) σ1 := ⟨⟨⟨cS_gI hc1.cS hg, (cS_gP hc1.cS).trans hP', by rw [← hσ1]; exact b2.up _ _ (by omega), fun s hs => by rw [hc1 11 (by omega)]; exact hB s hs, fun s hs => by rw [hc1 38 (by omega)]; exact h38 s hs⟩, by rw [← hσ1, um_s]; rfl, fun p hp h => (by rw [hmk p hp] at h; cases h), by rw [hN]⟩, fun k hk => by omega, fun x y hx => by omega, fun k _ hk => by omega, fun p hp h => (by rw [hmk p hp] at h; cases h)⟩
  obtain ⟨σ2, sz2, H2, L2, a1, a2, a3, a4, a5⟩ := s2 (κ := 0) (K := 0) hI (some st) (fun q e => by cases e; exact ⟨by omega, Or.inl rfl, Wk_0, by omega, Nat.le_refl _⟩) (by omega) (fun p hp h => (by rw [hmk p hp] at h; cases h)) (fun k hk => by omega)
  obtain ⟨c1, c2⟩ := a5 st rfl
  have hns : ∀ p, p < 17408 → mk σ2 (r + 1) p 0 = true → ¬ σ2 46 p = -1 := fun p hp h h' => by
    have := (a3.2.2.2.1 p hp h h').1
    rw [hmk p hp] at this; cases this
  have h532 : ∀ j, j ≠ 7 → σ2 53 j = σ0 53 j := fun j hj => by rw [a3.2.1 j hj, ← hσ1, um_i _ _ _ hj, um_c _ _ _ (by omega)]
  obtain ⟨σ3, o, r1, r2, r3⟩ := s0_loop hP hn hpr (show st < 17408 by omega) 17408 0 σ2 sz2 H2 L2 .null .null (by omega) a2 c1 (by omega) (fun p hp h h' => absurd h' (hns p hp h)) (fun p hp h h' => absurd h' (hns p hp h)) (by rw [h532 2 (by omega), ← hσ0, um_i _ _ _ (by omega), um_s]) (by rw [h532 3 (by omega), ← hσ0, um_s])
  refine ⟨σ3, o, ?_, (hc1.tr a3.1).tr r2, r3⟩
  rw [show hbo (some st) = nI st from rfl, show nI 0 = (0 : Int32) from rfl] at a1
  rw [b1, hb_cv_s, hσ1, a1, hb_cv_s]
  exact r1
end
