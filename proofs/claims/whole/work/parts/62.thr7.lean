/-! through, the call -/
theorem e43n (σ : hbM) (x1 x2 x3 x4 x5 x8 x9 : Int32) : hb_run hbSH 50 (43, [.ref 50, .int x1, .int x2, .int x3, .int x4, .int x5, .ref 45, .ref 46, .int x8, .int x9, .null], [], σ) = hb_run hbSH 50 (43, [.ref 50, .int x1, .int x2, .int x3, .int x4, .int x5, .ref 45, .ref 46, .int x8, .int x9, .ref 46], [], σ) := by
  rw [e50_43_1, e50_43_0]
/-- explore -/
theorem s50 {σ : hbM} {P : hbGP} {bd gd : Nat → Bool} {r st sl w : Nat} (hg : gI σ) (hP' : gP σ = P) (hB : ∀ s, s < 1024 → σ 11 s = hbb (bd s)) (hG : ∀ s, s < 1024 → σ 12 s = hbb (gd s)) (hrJ : rJ σ r) (hr : r + 1 < 100000000) (hst : st < 1024) (hsl : sl ≤ 2) (hw : w < 5) :
    ∃ σ', hb_ev hbSH 50 [.ref 50, .int (nI st), .int (nI sl), .int (nI w)] σ = some (some (.int (aThr P bd gd st sl w)), σ') ∧ cS σ σ' ∧ rJ σ' (r + 1) := by
  obtain ⟨hrI, hr51, hr52⟩ := hrJ
  have hP : gOk P := by rw [← hP']; exact gI_ok hg
  obtain ⟨b1, b2, b3⟩ := s27 hrI hr
  generalize hσ1 : hb_up (hb_up (hb_up (hb_up (hb_up σ 44 4 (nI (r + 1))) 50 5 (hbb (decide (w = 1)))) 50 6 0) 50 7 0) 50 8 0 = σ1
  have e51 : hb_ev hbSH 51 [.ref 50, .int (nI w)] σ = some (none, σ1) := by
    rw [v51, e51_0, b1, hb_cv_s]
    by_cases z : w = 1
    · rw [if_neg (fun y => y (by rw [z]; rfl)), e51_18, show hb_01 1 = true from rfl, show hb_01 0 = true from rfl, hb_g_t, hb_g_t, hb_g_nil, ← hσ1, decide_eq_true z]
      rfl
    · rw [if_pos (fun y => z (by rw [q_1, q_eq (by omega) (by omega)] at y; exact y)), e51_18, show hb_01 0 = true from rfl, hb_g_t, hb_g_t, hb_g_nil, ← hσ1, decide_eq_false z]
      rfl
  have hoth : ∀ c, c ≠ 44 → c ≠ 50 → σ1 c = σ c := fun c h1 h2 => by rw [← hσ1, um_c _ _ _ h2, um_c _ _ _ h2, um_c _ _ _ h2, um_c _ _ _ h2, um_c _ _ _ h1]
  have hcS1 : cS σ σ1 := fun c hc => hoth c (by omega) (by omega)
  have hmk : ∀ p l, p < 17408 → mk σ1 (r + 1) p l = false := fun p l hp => by
    rw [← hσ1, mk.up _ _ _ _ _ _ (by omega), mk.up _ _ _ _ _ _ (by omega), mk.up _ _ _ _ _ _ (by omega), mk.up _ _ _ _ _ _ (by omega)]; exact b3 p l hp
  have htm : ∀ x, tm σ1 (r + 1) x = false := fun x => hmk _ _ (by omega)
  have hed : ∀ s, s < 1024 → tEd σ1 (r + 1) s = false := fun s hs => by
    unfold tEd
    rw [hoth 51 (by omega) (by omega)]
    obtain ⟨v, hv, e⟩ := hr51 s hs
    rw [e]
    exact decide_eq_false (fun z => by rw [q_eq (by omega) (by omega)] at z; omega)
  have hrI1 : rI σ1 (r + 1) := by
    rw [← hσ1]; exact (((b2.up _ _ (by omega)).up _ _ (by omega)).up _ _ (by omega)).up _ _ (by omega)
  have hI1 : tI P bd gd (r + 1) (Rch (tE P sl) (fun a => a = st)) σ1 := by
    refine ⟨⟨cS_gI hcS1 hg, (cS_gP hcS1).trans hP', hrI1, fun s hs => by rw [hcS1 11 (by omega)]; exact hB s hs, fun s hs => by rw [hcS1 12 (by omega)]; exact hG s hs⟩, ⟨false, ?_, ⟨fun z => (by cases z), fun ⟨x, _, z, _⟩ => (by rw [htm] at z; cases z)⟩⟩, fun x _ z => (by rw [htm] at z; cases z), fun s hs => ?_, ?_, ?_, fun s hs z => (by rw [hed s hs] at z; cases z)⟩
    · rw [← hσ1, um_i _ _ _ (by omega), um_i _ _ _ (by omega), um_s]; rfl
    · rw [hoth 51 (by omega) (by omega)]
      obtain ⟨v, hv, e⟩ := hr51 s hs
      exact ⟨v, by omega, e⟩
    · rw [cnt_0 _ _ hed, ← hσ1, um_i _ _ _ (by omega), um_s]; rfl
    · rw [cnt_0 (fun s => tEd σ1 (r + 1) s && gd s) 1024 (fun s hs => by show (tEd σ1 (r + 1) s && gd s) = false; rw [hed s hs]; rfl), ← hσ1, um_s]; rfl
  have hF1 : fI P (r + 1) σ1 := by
    have hv : ∀ p, p < 17408 → ∃ v, v < 4 * (r + 1) ∧ σ1 52 p = nI v := fun p hp => by rw [hoth 52 (by omega) (by omega)]; exact hr52 p hp
    refine ⟨fun p hp => ?_, fun p hp => Or.inl ?_⟩
    · obtain ⟨v, h1, h2⟩ := hv p hp
      exact ⟨v, by omega, h2⟩
    · obtain ⟨v, h1, h2⟩ := hv p hp
      unfold ft tn
      rw [h2, q_cl (by omega), if_neg (by omega)]
  have h5 : σ1 50 5 = hbb (decide (w = 1)) := by rw [← hσ1, um_i _ _ _ (by omega), um_i _ _ _ (by omega), um_i _ _ _ (by omega), um_s]
  have hL0 : Lv σ1 (r + 1) 0 45 0 (fun _ => 0) := ⟨fun k hk => by omega, fun p hp z => (by rw [hmk p 0 hp] at z; cases z), (cnt_0 _ _ (fun p hp => hmk p 0 hp)).symm⟩
  obtain ⟨σ2, n2, row2, c1, c2, c3, c4, c5, c6, c7⟩ := s52 (Or.inl rfl) (l := 0) (by omega) hI1 hL0 (some st) (fun p e => by cases e; exact ⟨by omega, Rch.base (by show 17408 * 0 + st = st; omega)⟩)
  obtain ⟨σ3, d1, d2, d3, d4, d5⟩ := s50_loop (bd := bd) (gd := gd) (t := decide (w = 1)) hP hr hst hsl hw rfl (nI st) (sl + 1) 0 45 46 σ2 n2 row2 0 0 (by omega) (Or.inl ⟨rfl, rfl⟩) c3 (by
    unfold fI fB fV ft tn
    rw [c2.2.1]; exact hF1) (by rw [c2.2.2.1]; exact h5) (fun _ => c4) (fun p j h1 h2 hp => by rw [c2.2.2.2.2.2.1 p j h2 (by omega)]; exact hmk p j hp) (Or.inr ⟨by
      show mk σ2 (r + 1) (st % 17408) (st / 17408) = true
      rw [show st % 17408 = st by omega, show st / 17408 = 0 by omega]
      exact c7 st rfl, fun x hx => by omega, rfl, fun _ => rfl⟩)
  refine ⟨σ3, ?_, (hcS1.tr c2.1).tr d2, d3, d4, d5⟩
  rw [v50, e50_0, e51, hb_cv_s, show (0 : Int32) = nI 0 from rfl, show nI st = hbo (some st) from rfl, c1, hb_ci_s, e43n]
  exact d1
theorem o_through {n : Nat} {σ : hbM} (hJ : J n σ) (hn : n < 1000) (x y z : Int32) : Ok2 n 94 163 [.int x, .int y, .int z] σ := by
  obtain ⟨⟨⟨F, B, G, w1, w2, w3, w4, w5, w6, _⟩, _⟩, r, hr, hrJ⟩ := id hJ
  have key : ∃ σ1, hb_ev hbSH 94 [.ref 13, .int x, .int y, .int z] σ = some (some (.int (if hb_in x 1024 = true ∧ hb_in y 3 = true ∧ hb_in z 5 = true then aThr (gP σ) (fun s => wAny B s B.1) (wGood B G) x.toNatClampNeg y.toNatClampNeg z.toNatClampNeg else -1000001)), σ1) ∧ cS σ σ1 ∧ jR (n + 1) σ1 := by
    rw [v94, e94_0, s109n, hb_ci_s]
    cases hx : hb_in x 1024 with
    | false => exact ⟨σ, by rw [hbb_f, if_pos rfl, if_neg (fun q => by cases q.1)], cS.rf σ, J_s hJ⟩
    | true =>
      rw [hbb_t, if_neg (by decide), s110n _ _ 3 q_3 (by omega), hb_ci_s]
      cases hy : hb_in y 3 with
      | false => exact ⟨σ, by rw [hbb_f, if_pos rfl, if_neg (fun q => by cases q.2.1)], cS.rf σ, J_s hJ⟩
      | true =>
        rw [hbb_t, if_neg (by decide), s110n _ _ 5 q_5 (by omega), hb_ci_s]
        cases hz : hb_in z 5 with
        | false => exact ⟨σ, by rw [hbb_f, if_neg (fun q => q rfl), if_neg (fun q => by cases q.2.2)], cS.rf σ, J_s hJ⟩
        | true =>
          obtain ⟨st, hs, rfl⟩ := q_in_of hx
          obtain ⟨sl, hsl, rfl⟩ := q_in_of hy
          obtain ⟨w, hw, rfl⟩ := q_in_of hz
          obtain ⟨σ1, k1, k2, k3⟩ := s50 w1 rfl w5 w6 hrJ (by omega) hs (sl := sl) (by omega) hw
          refine ⟨σ1, ?_, k2, r + 1, by omega, k3⟩
          rw [hbb_t, if_pos (by decide), k1, hb_ci_s, q_cl (by omega), q_cl (by omega), q_cl (by omega), if_pos ⟨rfl, rfl, rfl⟩]
  obtain ⟨σ1, k1, k2, k3⟩ := key
  exact Ok2.of hJ k1 k2 k3 (fun _ => s163 (cS_mR k2 w2) (cS_mL k2 w3) (cS_mL k2 w4) (gI_ok w1) x y z)
