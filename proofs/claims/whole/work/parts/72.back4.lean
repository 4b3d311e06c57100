/-! back: the call -/
section
variable {P : hbGP} {bd gd : Nat → Bool} {r st : Nat}
theorem s66_loop (hT : ∀ s, s < 1024 → P.2.2.2.2.1 s < 1024) (hst : st < 1024) : ∀ (q i : Nat) (σ : hbM) (n : Nat) (row d f : Nat → Nat), i + q = 1024 → i ≤ n → bQ P bd gd r st n row d f σ → (i < n → ∀ b, b < n → bky d f (row b) ≤ kcA d f row i 0) → bCl P bd r i 0 row d f σ →
    ∃ σ' o, hb_run hbSH 66 (84, [.ref 49, .int (nI st), .int (nI n), .int (nI i)], [], σ) = some (none, σ') ∧ cW σ σ' ∧ rI σ' r ∧ bS P bd gd st o ∧ σ' 49 6 = hbo (o.map Prod.fst) ∧ σ' 49 7 = hbo (o.map Prod.snd) := by
  intro q
  induction q with
  | zero =>
    intro i σ n row d f hi hin hQ hsp hC
    have hn : n ≤ 1024 := by rw [hQ.2.2.2.1]; exact cnt_le _ _
    refine ⟨σ, none, by rw [e66_84, if_pos (by rw [q_le (by omega) (by omega)]; omega)], cW.rf σ, hQ.1.2.2.1, b_none hT hst hQ (by omega) hC, hQ.2.2.2.2.2.2.2.1, hQ.2.2.2.2.2.2.2.2⟩
  | succ q ih =>
    intro i σ n row d f hi hin hQ hsp hC
    have hn : n ≤ 1024 := by rw [hQ.2.2.2.1]; exact cnt_le _ _
    by_cases hni : n ≤ i
    · exact ⟨σ, none, by rw [e66_84, if_pos (by rw [q_le (by omega) (by omega)]; omega)], cW.rf σ, hQ.1.2.2.1, b_none hT hst hQ hni hC, hQ.2.2.2.2.2.2.2.1, hQ.2.2.2.2.2.2.2.2⟩
    · obtain ⟨a1, a2, a3, a4, a5, a6⟩ := hQ.2.1 i (by omega)
      obtain ⟨σ1, n1, b1, b2, b3, b4⟩ := s67_loop (r := r) hT hst (nI n) (i := i) (s := row i) 5 0 σ n row d f .null (by omega) hQ (by omega) rfl (hsp (by omega)) hC
      have h67 : hb_ev hbSH 67 [.ref 49, .int (nI (row i)), .int (nI n)] σ = some (some (.int (nI n1)), σ1) := by
        rw [v67, e67_0, q_inT (by omega) (by omega), hb_g_t, hb_g_nil, q_cl (by omega), a5, nI_1]
        exact b1
      rw [e66_84, if_neg (by rw [q_le (by omega) (by omega)]; omega), if_neg (by rw [q_1024, q_le (by omega) (by omega)]; omega), if_neg (fun z => z hQ.2.2.2.2.2.2.2.1), q_inT (by omega) (by omega), hb_g_t, hb_g_nil, q_cl (by omega), a1, h67, hb_ci_s, nI_1]
      rcases b4 with ⟨D, K, c1, c2, c3, c4⟩ | ⟨row', d', f', c1, c2, c3, c4, c5⟩
      · refine ⟨σ1, some (D, K), ?_, b2, b3, c1, c2, c3⟩
        rw [e66_84]
        by_cases z1 : nI n1 ≤ nI (i + 1)
        · rw [if_pos z1]
        · rw [if_neg z1]
          by_cases z2 : (1024 : Int32) ≤ nI (i + 1)
          · rw [if_pos z2]
          · rw [if_neg z2, if_pos (by rw [c2]; exact nno (by omega))]
      · obtain ⟨σ2, o, d1, d2, d3⟩ := ih (i + 1) σ1 n1 row' d' f' (by omega) (by omega) c1 (fun hlt b hb => by
          have h1 := c4 b hb
          have h2 : kcA d' f' row' (i + 1) 0 = bky d' f' (row' (i + 1)) + 5 := by unfold kcA; rw [if_neg (by omega)]
          rw [h2]
          unfold kcA at h1
          split at h1
          · rename_i h0
            obtain ⟨_, _, _, _, m, e, _⟩ := c1.2.2.2.2.2.1 (i + 1) (by omega) hlt
            have : bky d' f' (row' (i + 1)) = 5 * d' (row' (i + 1)) + f' (row' (i + 1)) := rfl
            omega
          · have := c1.2.2.2.2.2.2.1 i (i + 1) (by omega) hlt
            omega) c5
        exact ⟨σ2, o, d1, b2.tr d2, d3⟩
/-- seekGood -/
theorem s66 {σ : hbM} (hT : ∀ s, s < 1024 → P.2.2.2.2.1 s < 1024) (hst : st < 1024) (hg : gI σ) (hP' : gP σ = P) (hB : ∀ s, s < 1024 → σ 11 s = hbb (bd s)) (hG : ∀ s, s < 1024 → σ 12 s = hbb (gd s)) (hr : rI σ r) (hr2 : r + 1 < 100000000) :
    ∃ σ' r' o, hb_ev hbSH 66 [.ref 49, .int (nI st)] σ = some (none, σ') ∧ cW σ σ' ∧ rI σ' r' ∧ r ≤ r' ∧ r' ≤ r + 1 ∧ (bd st = false → gd st = false → bS P bd gd st o) ∧ ∀ w, w < 2 → (if w = 0 then σ' 49 6 else σ' 49 7) = vB bd gd st w o := by
  have hin : hb_in (nI st) 1024 = true := q_inT (by omega) hst
  rw [v66, e66_0, hin, hb_g_t, hb_g_nil, q_cl (by omega), hB st hst, hG st hst]
  generalize hσ0 : hb_up (hb_up σ 49 6 (-1000000)) 49 7 (-1000000) = σ0
  have hc0 : cW σ σ0 := by rw [← hσ0]; exact ((cW.rf σ).up _ _ (by omega)).up _ _ (by omega)
  have hr0 : rI σ0 r := by rw [← hσ0]; exact (hr.up _ _ (by omega)).up _ _ (by omega)
  have h6 : σ0 49 6 = hbNO := by rw [← hσ0, um_i _ _ _ (by omega), um_s]
  have h7 : σ0 49 7 = hbNO := by rw [← hσ0, um_s]
  cases hb : bd st with
  | true =>
    rw [hbb_t, if_neg (by decide)]
    refine ⟨σ0, r, none, rfl, hc0, hr0, by omega, by omega, fun z => (by cases z), fun w hw => ?_⟩
    unfold vB
    rw [if_pos hb]
    rcases (show w = 0 ∨ w = 1 by omega) with rfl | rfl
    · rw [if_pos rfl, h6]
    · rw [if_neg (by decide), h7]
  | false =>
    rw [hbb_f, if_pos rfl, hb_g_t, hb_g_nil]
    cases hgd : gd st with
    | true =>
      rw [hbb_t, if_neg (by decide)]
      refine ⟨hb_up σ0 49 6 0, r, none, rfl, hc0.up _ _ (by omega), hr0.up _ _ (by omega), by omega, by omega, fun _ z => (by cases z), fun w hw => ?_⟩
      unfold vB
      rw [hb, if_neg (show ¬ false = true by decide), if_pos hgd]
      rcases (show w = 0 ∨ w = 1 by omega) with rfl | rfl
      · rw [if_pos rfl, if_pos rfl, um_s]
      · rw [if_neg (by decide), if_neg (by decide), um_i _ _ _ (by omega), h7]
    | false =>
      obtain ⟨b1, b2, b3⟩ := s27 hr0 hr2
      have hm0 := b3 st 0 (by omega)
      have h28 := s28 b2 (p := st) (l := 0) (by omega) (by omega)
      rw [show nI 0 = (0 : Int32) from rfl] at h28
      rw [hbb_f, if_pos rfl, b1, hb_cv_s, h28, hb_ci_s, show hb_in 0 17408 = true from rfl, q_inT (by omega) (by omega), hb_g_t, hb_g_t, hb_g_nil]
      generalize hσ1 : hb_up (hb_up (eE (hb_up σ0 44 4 (nI (r + 1))) (r + 1) st 0) 45 (Int32.toNatClampNeg 0) (nI st)) 46 st 0 = σ1
      have hoth : ∀ c, c ≠ 44 → c ≠ 45 → c ≠ 46 → c ≠ 48 → σ1 c = σ0 c := fun c h1 h2 h3 h4 => by rw [← hσ1, um_c _ _ _ h3, um_c _ _ _ h2, eE_o _ _ _ _ h4, um_c _ _ _ h1]
      have hc1 : cW σ σ1 := fun c hc => (hoth c (by omega) (by omega) (by omega) (by omega)).trans (hc0 c hc)
      have hr1 : rI σ1 (r + 1) := by rw [← hσ1]; exact ((eE_rI b2 (by omega)).up _ _ (by omega)).up _ _ (by omega)
      have hmk : ∀ p, p < 17408 → mk σ1 (r + 1) p 0 = decide (p = st) := fun p hp => by
        rw [← hσ1, mk.up _ _ _ _ _ _ (by omega), mk.up _ _ _ _ _ _ (by omega), eE_mk b2 (by omega) (by omega) (by omega), b3 p 0 hp]
        simp
      have hcnt : (1 : Nat) = cnt (fun p => mk σ1 (r + 1) p 0) 1024 := by
        have h1 := cnt_set (f := fun _ => false) (p := st) rfl 1024 hst
        rw [cnt_0 (fun _ => false) 1024 (fun _ _ => rfl)] at h1
        rw [cnt_eq (f := fun p => mk σ1 (r + 1) p 0) (g := fun x => false || decide (x = st)) 1024 (fun p hp => by
          show mk σ1 (r + 1) p 0 = (false || decide (p = st))
          rw [hmk p (by omega), Bool.false_or]), h1]
      have hQ : bQ P bd gd (r + 1) st 1 (fun _ => st) (fun _ => 0) (fun _ => 0) σ1 := by
        refine ⟨⟨cS_gI hc1.cS hg, (cS_gP hc1.cS).trans hP', hr1, fun s hs => by rw [hc1 11 (by omega)]; exact hB s hs, fun s hs => by rw [hc1 12 (by omega)]; exact hG s hs⟩, fun k hk => ⟨?_, hst, by rw [hmk st (by omega)]; simp, Nat.zero_le _, ?_, hgd⟩, fun p hp h => ?_, hcnt, ⟨by omega, rfl, rfl, rfl⟩, fun k h1 h2 => by omega, fun a b _ _ => Nat.le_refl _, ?_, ?_⟩
        · obtain rfl : k = 0 := by omega
          rw [← hσ1, um_c _ _ _ (by omega)]
          exact um_s _ _ _ _
        · rw [← hσ1, um_s]; rfl
        · rw [hmk p (by omega)] at h
          exact ⟨0, by omega, (of_decide_eq_true h).symm⟩
        · rw [hoth 49 (by omega) (by omega) (by omega) (by omega)]; exact h6
        · rw [hoth 49 (by omega) (by omega) (by omega) (by omega)]; exact h7
      obtain ⟨σ2, o, c1, c2, c3, c4, c5, c6⟩ := s66_loop (r := r + 1) hT hst 1024 0 σ1 1 _ _ _ (by omega) (by omega) hQ (fun _ b hb => by
        show 5 * 0 + 0 ≤ _
        omega) (fun a j hj h => by omega)
      refine ⟨σ2, r + 1, o, c1, hc1.tr c2, c3, by omega, by omega, fun _ _ => c4, fun w hw => ?_⟩
      unfold vB
      rw [hb, if_neg (show ¬ false = true by decide), hgd, if_neg (show ¬ false = true by decide), c5, c6]
end
theorem o_back {n : Nat} {σ : hbM} (hJ : J n σ) (hn : n < 1000) (x y : Int32) : Ok2 n 96 167 [.int x, .int y] σ := by
  obtain ⟨⟨⟨F, B, G, w1, w2, w3, w4, w5, w6, _⟩, _⟩, r, hr, hrJ⟩ := id hJ
  have hT : ∀ s, s < 1024 → (gP σ).2.2.2.2.1 s < 1024 := fun s hs => (q_nn (w1.2.2.1 s hs) (by omega)).2
  have key : ∃ σ1 o, hb_ev hbSH 96 [.ref 13, .int x, .int y] σ = some (some (.int (if hb_in x 1024 = true ∧ hb_in y 2 = true then vB (fun s => wAny B s B.1) (wGood B G) x.toNatClampNeg y.toNatClampNeg o else -1000001)), σ1) ∧ cS σ σ1 ∧ jR (n + 1) σ1 ∧ (hb_in x 1024 = true ∧ hb_in y 2 = true → wAny B x.toNatClampNeg B.1 = false → wGood B G x.toNatClampNeg = false → bS (gP σ) (fun s => wAny B s B.1) (wGood B G) x.toNatClampNeg o) := by
    rw [v96, e96_0, s109n, hb_ci_s]
    cases hx : hb_in x 1024 with
    | false => exact ⟨σ, none, by rw [hbb_f, if_pos rfl, if_neg (fun q => by cases q.1)], cS.rf σ, J_s hJ, fun q => by cases q.1⟩
    | true =>
      rw [hbb_t, if_neg (by decide), s110n _ _ 2 q_2 (by omega), hb_ci_s]
      cases hy : hb_in y 2 with
      | false => exact ⟨σ, none, by rw [hbb_f, if_neg (fun q => q rfl), if_neg (fun q => by cases q.2)], cS.rf σ, J_s hJ, fun q => by cases q.2⟩
      | true =>
        obtain ⟨st, hs, rfl⟩ := q_in_of hx
        obtain ⟨w, hw, rfl⟩ := q_in_of hy
        obtain ⟨σ1, r', o, k1, k2, k3, k4, k5, k6, k7⟩ := s66 (st := st) (bd := fun s => wAny B s B.1) (gd := wGood B G) hT hs w1 rfl w5 w6 hrJ.1 (by omega)
        refine ⟨σ1, o, ?_, k2.cS, ⟨r', by omega, rJ_W k2 k3 k4 hrJ⟩, fun _ => by rw [q_cl (by omega)]; exact k6⟩
        have k8 := k7 w hw
        rw [hbb_t, if_pos (by decide), k1, hb_cv_s, q_cl (by omega), q_cl (by omega), if_pos (show (true = true ∧ true = true) from ⟨rfl, rfl⟩), ← k8]
        rcases (show w = 0 ∨ w = 1 by omega) with rfl | rfl
        · rw [if_neg (fun z => z (by decide)), if_pos rfl]
        · rw [if_pos (by decide), if_neg (by decide)]
  obtain ⟨σ1, o, k1, k2, k3, k4⟩ := key
  refine Ok2.of hJ k1 k2 k3 (fun _ => ?_)
  obtain ⟨σ2, o', m1, m2, m3⟩ := s167 (P := gP σ) (F := F) (B := B) (G := G) hT (cS_mR k2 w2) (cS_mL k2 w3) (cS_mL k2 w4) x y
  refine ⟨σ2, ?_, m2⟩
  rw [m1]
  by_cases hc : hb_in x 1024 = true ∧ hb_in y 2 = true
  · rw [if_pos hc, if_pos hc]
    refine q_rs _ ?_
    unfold vB
    cases hb : wAny B x.toNatClampNeg B.1 with
    | true => rw [if_pos (show (fun s => wAny B s B.1) x.toNatClampNeg = true from hb), if_pos (show (fun s => wAny B s B.1) x.toNatClampNeg = true from hb)]
    | false =>
      cases hg : wGood B G x.toNatClampNeg with
      | true => rw [if_pos rfl, if_pos rfl]
      | false => rw [bS_un (m3 hc hb hg) (k4 hc hb hg)]
  · rw [if_neg hc, if_neg hc]
