/-! cheapest: the call -/
def vC (o : Option Nat) (w : Nat) : Int32 := if w = 0 then hbo (o.map (fun K => K / 128)) else vF o
theorem s165_c (x1 x2 : Int32) : ∀ (n i : Nat) (σ : hbM), i + n = 17408 → ∃ σ', hb_run hbSH 165 (27, [.ref 54, .int x1, .int x2, .int (nI i), .null, .null, .null, .null, .null], [], σ) = hb_run hbSH 165 (27, [.ref 54, .int x1, .int x2, .int (nI 17408), .null, .null, .null, .null, .null], [], σ') ∧ mS σ σ' ∧ (∀ k, i ≤ k → k < 17408 → σ' 74 k = -1 ∧ σ' 75 k = 0) ∧ ∀ k, k < i → σ' 74 k = σ 74 k ∧ σ' 75 k = σ 75 k := by
  intro n
  induction n with
  | zero =>
    intro i σ hi
    obtain rfl : i = 17408 := by omega
    exact ⟨σ, rfl, mS.rf σ, fun k h1 h2 => by omega, fun _ _ => ⟨rfl, rfl⟩⟩
  | succ n ih =>
    intro i σ hi
    obtain ⟨σ', k1, k2, k3, k4⟩ := ih (i + 1) (hb_up (hb_up σ 74 i (-1)) 75 i 0) (by omega)
    refine ⟨σ', ?_, (((mS.rf σ).up _ _ (by omega)).up _ _ (by omega)).tr k2, fun k h1 h2 => ?_, fun k hk => ?_⟩
    · rw [e165_27, if_neg (by rw [q_17408, q_le (by omega) (by omega)]; omega), q_inT (by omega) (by omega), show hb_01 0 = true from rfl, hb_g_t, hb_g_t, hb_g_t, hb_g_nil, nI_1, q_cl (by omega)]
      exact k1
    · by_cases q : k = i
      · obtain ⟨a, b⟩ := k4 k (by omega)
        rw [a, b, q, um_c _ _ _ (by omega), um_s, um_s]; exact ⟨rfl, rfl⟩
      · exact k3 k (by omega) h2
    · obtain ⟨a, b⟩ := k4 k (by omega)
      rw [a, b, um_c _ _ _ (by omega), um_i _ _ _ (by omega), um_i _ _ _ (by omega), um_c _ _ _ (by omega)]; exact ⟨rfl, rfl⟩
theorem rf_div {K : Nat} (h : vK K) : rf K / 64 = K / 128 ∧ (K ≠ 0 → rf K % 64 = K % 128 - 1) := by
  unfold rf
  rcases h with h | h
  · subst h; exact ⟨rfl, fun z => absurd rfl z⟩
  · constructor
    · omega
    · intro _; omega
theorem s165 {P : hbGP} {F : hbF} {B : hbL} {pr : Nat → Nat} {σ : hbM} (hP : gOk P) (hpr : prOk pr) (hR : mR σ P F) (hB : mL σ B 9 0) (h69 : ∀ s, s < 4 → σ 69 s = nI (pr s)) (x y : Int32) :
    ∃ σ' o, hb_ev hbSH 165 [.ref 54, .int x, .int y] σ = some (some (.int (if hb_in x 1024 = true ∧ hb_in y 2 = true then vC o y.toNatClampNeg else -1000001)), σ') ∧ mS σ σ' ∧ (hb_in x 1024 = true ∧ hb_in y 2 = true → cSp P pr (fun s => wAny B s B.1) x.toNatClampNeg o) := by
  have m0 := mS_t σ
  have hn := hR.2.1
  rw [v165, e165_0, s136, hb_ci_s]
  cases hx : hb_in x 1024 with
  | false => exact ⟨_, none, by rw [hbb_f, if_pos rfl, if_neg (fun q => by cases q.1)], m0, fun q => by cases q.1⟩
  | true =>
    rw [hbb_t, if_neg (by decide), s112, q_long y 2 (by decide), hb_ci_s]
    cases hy : hb_in y 2 with
    | false => exact ⟨_, none, by rw [hbb_f, if_neg (fun q => q rfl), if_neg (fun q => by cases q.2)], m0, fun q => by cases q.2⟩
    | true =>
      obtain ⟨st, hs, rfl⟩ := q_in_of hx
      obtain ⟨w, hw, rfl⟩ := q_in_of hy
      rw [hbb_t, if_pos (by decide), q_cl (by omega), q_cl (by omega)]
      simp only [and_self, if_true, true_implies]
      obtain ⟨σ1, a1, a2, a3, a4⟩ := s165_c (nI st) (nI w) 17408 0 (hb_up σ 54 0 0) (by omega)
      have m1 := m0.tr a2
      generalize hσ2 : hb_up (hb_up σ1 54 43 0) 54 42 0 = σ2
      have m2 : mS σ σ2 := by rw [← hσ2]; exact (m1.upf _ (by omega)).upf _ (by omega)
      have ho2 : ∀ c, c ≠ 54 → σ2 c = σ1 c := fun c hc => by rw [← hσ2, um_c _ _ _ hc, um_c _ _ _ hc]
      have hQ0 : rQ P pr (fun s => wAny B s B.1) st 0 0 (fun _ => 0) (fun _ => 0) (fun _ => false) (fun _ => false) σ2 := ⟨⟨by rw [← hσ2, um_i _ _ _ (by omega), um_s]; rfl, by omega, by rw [← hσ2, um_s]; rfl⟩, fun k hk => by omega, fun a b ha => by omega, fun p _ h => (by cases h), (cnt_0 _ _ (fun _ _ => rfl)).symm, fun p hp => ⟨by rw [ho2 75 (by omega)]; exact (a3 p (by omega) hp).2, fun h => (by cases h)⟩, fun p hp => by rw [ho2 74 (by omega), if_neg (show ¬ false = true by decide)]; exact (a3 p (by omega) hp).1, fun p _ h => (by cases h)⟩
      obtain ⟨σ3, ln, Q, L, S, W, b1, b2, b3, b4, b5, b6, b7⟩ := s164 hQ0 (q := st) (K := 0) (by omega) (Or.inl rfl) Wk_0 (by omega)
      have m3 := m2.tr b3
      obtain ⟨σ4, o, v4, v5, v6, v7, v8, c1, c2, c3, c4, c5⟩ := s165_73 (F := F) (B := B) hP hn hpr (show st < 17408 by omega) rfl (nI st) (nI w) (2 * phi S L + ln + 1) 0 ln σ3 Q L S W none .null .null .null .null .null (by omega) b2 (mS_mR m3 hR) (mS_mL m3 (Or.inl rfl) hB) (fun s hs => by rw [m3.1 69 (by omega) (by omega)]; exact h69 s hs) b5.1 (by omega) (fun p hp h1 h2 => by
        have := (b4.2 p hp h1 h2).1
        cases this) (fun K e => by cases e)
      refine ⟨σ4, o, ?_, m3.tr c2, c4⟩
      rw [show nI 0 = (0 : Int32) from rfl] at a1
      rw [show nI (rf 0) = (0 : Int32) from rfl] at b1
      rw [show hbo (Option.map rf none) = (-1000000 : Int32) from rfl] at c1
      rw [a1, e165_27, if_pos (by decide), hσ2, b1, hb_cv_s, c1, e165_73, c3, if_pos (by decide)]
      have d6 : decide (¬ (64 : Int32) = 0) = true := by decide
      cases o with
      | none =>
        rw [if_neg (fun z => z (show hbo (Option.map rf none) = (-1000000 : Int32) from rfl))]
        rcases (show w = 0 ∨ w = 1 by omega) with rfl | rfl <;> rfl
      | some K =>
        obtain ⟨e1, e2⟩ := c5 K rfl
        have hrl := rf_le K
        obtain ⟨f1, f2⟩ := rf_div e1
        have f0 := rf_0 e1
        rw [show hbo (Option.map rf (some K)) = nI (rf K) from rfl, if_pos (show ¬ nI (rf K) = (-1000000 : Int32) from nno (by omega))]
        have eqd : nI (rf K) / (64 : Int32) = nI (rf K / 64) := q_div (d := 64) (by omega) (by omega) (by omega)
        have eqm : nI (rf K) - nI (rf K / 64) * (64 : Int32) = nI (rf K % 64) := q_rem (d := 64) (by omega) (by omega) (by omega)
        rcases (show w = 0 ∨ w = 1 by omega) with rfl | rfl
        · rw [if_neg (fun z => z (by decide)), d6, hb_g_t, hb_g_nil, eqd, f1]; rfl
        · rw [if_pos (by decide)]
          show _ = some (some (Value.int (if K = 0 then hbNO else nI (K % 128 - 1))), σ4)
          by_cases z : K = 0
          · rw [if_neg (fun y => y (by rw [f0.mpr z]; rfl)), if_pos z]
          · rw [if_pos (fun y => z (f0.mp (by rw [q_0, q_eq (by omega) (by omega)] at y; exact y))), d6, hb_g_t, hb_g_nil, eqd, eqm, f2 z, if_neg z]
theorem o_cheapest {n : Nat} {σ : hbM} (hJ : J n σ) (hn : n < 1000) (x y : Int32) : Ok2 n 95 165 [.int x, .int y] σ := by
  obtain ⟨⟨⟨F, B, G, w1, w2, w3, w4, w5, w6, _⟩, hjP, _⟩, r, hr, hrJ⟩ := id hJ
  have hP := gI_ok w1
  have hpv : ∀ k, k < 4 → 1 ≤ tn σ 38 k ∧ tn σ 38 k ≤ 99 ∧ σ 38 k = nI (tn σ 38 k) ∧ σ 69 k = nI (tn σ 38 k) := fun k hk => by
    obtain ⟨v, h1, h2, h3, h4⟩ := hjP k hk
    have e : tn σ 38 k = v := by unfold tn; rw [h3, q_cl (by omega)]
    rw [e]; exact ⟨h1, h2, h3, h4⟩
  have hpr : prOk (tn σ 38) := fun s hs => ⟨(hpv s hs).1, (hpv s hs).2.1⟩
  have key : ∃ σ1 o, hb_ev hbSH 95 [.ref 13, .int x, .int y] σ = some (some (.int (if hb_in x 1024 = true ∧ hb_in y 2 = true then vC o y.toNatClampNeg else -1000001)), σ1) ∧ cS σ σ1 ∧ jR (n + 1) σ1 ∧ (hb_in x 1024 = true ∧ hb_in y 2 = true → cSp (gP σ) (tn σ 38) (fun s => wAny B s B.1) x.toNatClampNeg o) := by
    rw [v95, e95_0, s109n, hb_ci_s]
    cases hx : hb_in x 1024 with
    | false => exact ⟨σ, none, by rw [hbb_f, if_pos rfl, if_neg (fun q => by cases q.1)], cS.rf σ, J_s hJ, fun q => by cases q.1⟩
    | true =>
      rw [hbb_t, if_neg (by decide), s110n _ _ 2 q_2 (by omega), hb_ci_s]
      cases hy : hb_in y 2 with
      | false => exact ⟨σ, none, by rw [hbb_f, if_neg (fun q => q rfl), if_neg (fun q => by cases q.2)], cS.rf σ, J_s hJ, fun q => by cases q.2⟩
      | true =>
        obtain ⟨st, hs, rfl⟩ := q_in_of hx
        obtain ⟨w, hw, rfl⟩ := q_in_of hy
        obtain ⟨σ1, o, k1, k2, k3, k4, k5, k6⟩ := s0 (bd := fun s => wAny B s B.1) hP w2.2.1 hpr hs w1 rfl w5 (fun s hs => (hpv s hs).2.2.1) hrJ.1 (by omega)
        refine ⟨σ1, o, ?_, k2.cS, ⟨r + 1, by omega, rJ_W k2 k3 (by omega) hrJ⟩, fun _ => by rw [q_cl (by omega)]; exact k4⟩
        rw [hbb_t, if_pos (by decide), k1, hb_cv_s, q_cl (by omega), if_pos (show (true = true ∧ true = true) from ⟨rfl, rfl⟩), k5, k6]
        unfold vC
        rcases (show w = 0 ∨ w = 1 by omega) with rfl | rfl
        · rw [if_neg (fun z => z (by decide)), if_pos rfl]
        · rw [if_pos (by decide), if_neg (by decide)]
  obtain ⟨σ1, o, k1, k2, k3, k4⟩ := key
  refine Ok2.of hJ k1 k2 k3 (fun _ => ?_)
  obtain ⟨σ2, o', m1, m2, m3⟩ := s165 (P := gP σ) (F := F) (B := B) (pr := tn σ 38) hP hpr (cS_mR k2 w2) (cS_mL k2 w3) (fun s hs => by rw [k2 69 (by omega)]; exact (hpv s hs).2.2.2) x y
  refine ⟨σ2, ?_, m2⟩
  rw [m1]
  by_cases hc : hb_in x 1024 = true ∧ hb_in y 2 = true
  · rw [if_pos hc, if_pos hc, cSp_un (m3 hc) (k4 hc)]
  · rw [if_neg hc, if_neg hc]
