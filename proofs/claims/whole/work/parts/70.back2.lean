/-! back: the reference's call -/
def vB (bd gd : Nat → Bool) (st w : Nat) (o : Option (Nat × Nat)) : Int32 := if bd st = true then hbNO else if gd st = true then (if w = 0 then 0 else hbNO) else if w = 0 then hbo (o.map Prod.fst) else hbo (o.map Prod.snd)
theorem wgb (B G : hbL) (x : Nat) (h : wGood B G x = true) : wAny B x B.1 = false := by
  unfold wGood at h
  rw [Bool.and_eq_true, Bool.not_eq_true'] at h
  exact h.1
section
variable {P : hbGP} {F : hbF} {B G : hbL}
theorem s167_204 (hT : ∀ s, s < 1024 → P.2.2.2.2.1 s < 1024) (x2 x3 : Int32) (v5 v6 : Value) {σ : hbM} (hR : mR σ P F) {m st D : Nat} (hm : m ≤ 1024) (hs : st < 1024) (hSt : ∀ x, x < 1024 → St P (fun s => wAny B s B.1) (wGood B G) σ m x) (hD : D + 1 ≤ m) (he : σ 76 st = nI (D + 1)) (hex : ∃ k, k < 5 ∧ lay P (fun s => wAny B s B.1) (wGood B G) D (gdd P st k)) : ∀ (f k : Nat), k + f = 5 → (∀ j, j < k → ¬ lay P (fun s => wAny B s B.1) (wGood B G) D (gdd P st j)) →
    ∃ K, K < 5 ∧ lay P (fun s => wAny B s B.1) (wGood B G) D (gdd P st K) ∧ (∀ j, j < K → ¬ lay P (fun s => wAny B s B.1) (wGood B G) D (gdd P st j)) ∧ hb_run hbSH 167 (204, [.ref 54, .int (nI st), .int x2, .int x3, .int (nI k), v5, v6], [], σ) = some (some (.int (nI K)), σ) := by
  intro f
  induction f with
  | zero =>
    intro k hk hno
    obtain ⟨j, hj, hl⟩ := hex
    exact absurd hl (hno j (by omega))
  | succ f ih =>
    intro k hk hno
    have hy := gdd_lt hT hs (k := k) (by omega)
    have hcmp := St_is (hSt _ hy) (show D ≤ m by omega) (by omega)
    have e1 : nI (D + 1) - (1 : Int32) = nI D := by rw [q_1, q_sub (by omega)]; rfl
    rw [e167_204, s166 hR hs (by omega), hb_ci_s, q_inT (by omega) hy, q_inT (by omega) hs, hb_g_t, hb_g_t, hb_g_nil, q_cl (by omega), q_cl (by omega), he, e1]
    by_cases hl : σ 76 (gdd P st k) = nI D
    · exact ⟨k, by omega, hcmp.mp hl, hno, by rw [if_pos hl]⟩
    · obtain ⟨K, a1, a2, a3, a4⟩ := ih (k + 1) (by omega) (fun j hj => by
        by_cases z : j = k
        · rw [z]; exact fun y => hl (hcmp.mpr y)
        · exact hno j (by omega))
      exact ⟨K, a1, a2, a3, by rw [if_neg hl, nI_1]; exact a4⟩
theorem Rw_top (hT : ∀ s, s < 1024 → P.2.2.2.2.1 s < 1024) {bd gd : Nat → Bool} {m : Nat} (h : ∀ x, x < 1024 → Rw P bd gd (m + 1) x → Rw P bd gd m x) : ∀ (M x : Nat), x < 1024 → Rw P bd gd M x → Rw P bd gd m x := by
  intro M
  induction M with
  | zero => intro x hx hr; exact Rw_le (by omega) hr
  | succ M ih =>
    intro x hx hr
    rcases hr with hr | ⟨h1, k, hk, h2⟩
    · exact Rw_le (Nat.zero_le _) (show Rw P bd gd 0 x from hr)
    · exact h x hx (Or.inr ⟨h1, k, hk, ih _ (gdd_lt hT hx hk) h2⟩)
theorem s167 {σ : hbM} (hT : ∀ s, s < 1024 → P.2.2.2.2.1 s < 1024) (hR : mR σ P F) (hB : mL σ B 9 0) (hG : mL σ G 10 4) (x y : Int32) :
    ∃ σ' o, hb_ev hbSH 167 [.ref 54, .int x, .int y] σ = some (some (.int (if hb_in x 1024 = true ∧ hb_in y 2 = true then vB (fun s => wAny B s B.1) (wGood B G) x.toNatClampNeg y.toNatClampNeg o else -1000001)), σ') ∧ mS σ σ' ∧ (hb_in x 1024 = true ∧ hb_in y 2 = true → wAny B x.toNatClampNeg B.1 = false → wGood B G x.toNatClampNeg = false → bS P (fun s => wAny B s B.1) (wGood B G) x.toNatClampNeg o) := by
  have m0 := mS_t σ
  rw [v167, e167_0, s136, hb_ci_s]
  cases hx : hb_in x 1024 with
  | false => exact ⟨_, none, by rw [hbb_f, if_pos rfl, if_neg (fun q => by cases q.1)], m0, fun q => by cases q.1⟩
  | true =>
    rw [hbb_t, if_neg (by decide), s112, q_long y 2 (by decide), hb_ci_s]
    cases hy : hb_in y 2 with
    | false => exact ⟨_, none, by rw [hbb_f, if_neg (fun q => q rfl), if_neg (fun q => by cases q.2)], m0, fun q => by cases q.2⟩
    | true =>
      obtain ⟨st, hs, rfl⟩ := q_in_of hx
      obtain ⟨w, hw, rfl⟩ := q_in_of hy
      rw [hbb_t, if_pos (by decide), q_cl (by omega), q_cl (by omega)]
      have htt : (true = true ∧ true = true) = True := by simp
      simp only [and_self, if_true, true_implies]
      obtain ⟨σ1, a1, a2, a3, a4⟩ := s167_0 (B := B) (G := G) (nI st) (nI w) 1024 0 (hb_up σ 54 0 0) (by omega) (mS_mL m0 (Or.inl rfl) hB) (mS_mL m0 (Or.inr rfl) hG)
      have m1 := m0.tr (mS76 a2)
      have hSt0 : ∀ x, x < 1024 → St P (fun s => wAny B s B.1) (wGood B G) σ1 0 x := fun x hx => by
        have := a3 x (by omega) hx
        by_cases z : wGood B G x = true
        · rw [if_pos z] at this
          exact Or.inr ⟨0, Nat.le_refl _, this, z, fun d' hd' => by omega⟩
        · rw [if_neg z] at this
          exact Or.inl ⟨this, z⟩
      have hc := cnt_le (fun x => decide (σ1 76 x = hbNO)) 1024
      obtain ⟨σ2, x4, v5, v6, m, b1, b2, b3, b4, b5⟩ := s167_65 (F := F) (B := B) (G := G) hT (nI st) (nI w) 1025 0 σ1 .null .null (by omega) (by omega) (mS_mR m1 hR) (mS_mL m1 (Or.inl rfl) hB) hSt0
      have m2 := m1.tr (mS76 b2)
      rw [show nI 0 = (0 : Int32) from rfl] at a1
      rw [show nI (0 + 1) = (1 : Int32) from rfl] at b1
      rw [a1, b1, e167_65, if_pos rfl]
      have hin : hb_in (nI st) 1024 = true := q_inT (by omega) hs
      rcases b4 st hs with ⟨e1, n1⟩ | ⟨d, hd, e1, l1⟩
      · have hall : ∀ M, ¬ Rw P (fun s => wAny B s B.1) (wGood B G) M st := fun M z => n1 (Rw_top hT b5 M st hs z)
        have hng : wGood B G st = false := by
          cases z : wGood B G st with
          | false => rfl
          | true => exact absurd (show Rw P (fun s => wAny B s B.1) (wGood B G) 0 st from z) (hall 0)
        refine ⟨σ2, none, ?_, m2, fun h1 h2 => bS_no h1 hall⟩
        have hv : vB (fun s => wAny B s B.1) (wGood B G) st w none = hbNO := by
          unfold vB
          rw [hng]
          split
          · rfl
          · rw [if_neg (by decide)]
            split <;> rfl
        rw [hv]
        rcases (show w = 0 ∨ w = 1 by omega) with rfl | rfl
        · rw [if_pos (by decide), if_neg (fun z => z (by decide)), hin, hb_g_t, hb_g_nil, q_cl (by omega), e1]
        · rw [if_neg (by decide), hin, hb_g_t, hb_g_nil, q_cl (by omega), if_pos e1, if_pos (by decide)]
      · have hnb : wAny B st B.1 = false := Rw_nb (bd := fun s => wAny B s B.1) (wgb B G) l1.1
        cases d with
        | zero =>
          have hg : wGood B G st = true := l1.1
          refine ⟨σ2, none, ?_, m2, fun _ h2 => (by rw [hg] at h2; cases h2)⟩
          have hv : vB (fun s => wAny B s B.1) (wGood B G) st w none = if w = 0 then 0 else hbNO := by
            unfold vB
            rw [if_neg (by show ¬ wAny B st B.1 = true; rw [hnb]; decide), if_pos hg]
          rw [hv]
          rcases (show w = 0 ∨ w = 1 by omega) with rfl | rfl
          · rw [if_pos (by decide), if_neg (fun z => z (by decide)), hin, hb_g_t, hb_g_nil, q_cl (by omega), e1]; rfl
          · rw [if_neg (by decide), hin, hb_g_t, hb_g_nil, q_cl (by omega), if_neg (by rw [e1]; decide), hb_g_t, hb_g_nil, if_neg (fun z => z e1), if_pos (by decide)]; rfl
        | succ D =>
          have hng : wGood B G st = false := by
            cases z : wGood B G st with
            | false => rfl
            | true => exact absurd (show Rw P (fun s => wAny B s B.1) (wGood B G) 0 st from z) (l1.2 0 (by omega))
          have hex : ∃ k, k < 5 ∧ lay P (fun s => wAny B s B.1) (wGood B G) D (gdd P st k) := by
            rcases l1.1 with z | ⟨h1, k, hk, h2⟩
            · rw [hng] at z; cases z
            · exact ⟨k, hk, h2, fun d' hd' z => l1.2 (d' + 1) (by omega) (Or.inr ⟨h1, k, hk, z⟩)⟩
          obtain ⟨K, c1, c2, c3, c4⟩ := s167_204 hT (nI w) 0 v5 v6 (mS_mR m2 hR) b3 hs b4 hd e1 hex 5 0 (by omega) (fun j hj => by omega)
          refine ⟨σ2, some (D + 1, K), ?_, m2, fun h1 h2 => bS_lay (wgb B G) h1 l1 c1 c2 c3⟩
          have hv : vB (fun s => wAny B s B.1) (wGood B G) st w (some (D + 1, K)) = if w = 0 then nI (D + 1) else nI K := by
            unfold vB
            rw [if_neg (by show ¬ wAny B st B.1 = true; rw [hnb]; decide), hng, if_neg (by decide)]
            rfl
          rw [hv]
          rcases (show w = 0 ∨ w = 1 by omega) with rfl | rfl
          · rw [if_pos (by decide), if_neg (fun z => z (by decide)), hin, hb_g_t, hb_g_nil, q_cl (by omega), e1]; rfl
          · rw [if_neg (by decide), hin, hb_g_t, hb_g_nil, q_cl (by omega), if_neg (by rw [e1]; exact nno (by omega)), hb_g_t, hb_g_nil, if_pos (fun z => by rw [e1, q_0, q_eq (by omega) (by omega)] at z; omega)]
            exact c4
end
