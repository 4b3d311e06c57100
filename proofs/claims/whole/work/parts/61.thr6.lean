/-! through: the class, the whole search -/
theorem aThr_0 (P : hbGP) (bd gd : Nat → Bool) (st sl : Nat) : aThr P bd gd st sl 0 = nI (cnt (tC P sl st) 52224) := by unfold aThr; rw [if_pos rfl]
theorem aThr_1 (P : hbGP) (bd gd : Nat → Bool) (st sl : Nat) : aThr P bd gd st sl 1 = hbb (tHarm P bd sl st) := by unfold aThr; rw [if_neg (by omega), if_pos rfl]
theorem aThr_2 (P : hbGP) (bd gd : Nat → Bool) (st sl : Nat) : aThr P bd gd st sl 2 = nI (cnt (tEnd P sl st) 1024) := by unfold aThr; rw [if_neg (by omega), if_neg (by omega), if_pos rfl]
theorem aThr_3 (P : hbGP) (bd gd : Nat → Bool) (st sl : Nat) : aThr P bd gd st sl 3 = nI (cnt (fun s => tEnd P sl st s && gd s) 1024) := by unfold aThr; rw [if_neg (by omega), if_neg (by omega), if_neg (by omega), if_pos rfl]
theorem aThr_4 (P : hbGP) (bd gd : Nat → Bool) (st sl : Nat) : aThr P bd gd st sl 4 = nI (cnt (fun x => tC P sl st x && bP (hang (gOn P) (x % 17408))) 52224) := by unfold aThr; rw [if_neg (by omega), if_neg (by omega), if_neg (by omega), if_neg (by omega)]
theorem cnt_cut {f : Nat → Bool} {a N : Nat} (ha : a ≤ N) (h : ∀ x, a ≤ x → x < N → f x = false) : cnt f N = cnt f a := by
  obtain ⟨b, rfl⟩ := Nat.exists_eq_add_of_le ha
  rw [cnt_add, cnt_0 (fun i => f (a + i)) b (fun i hi => h _ (by omega) (by omega))]
  omega
theorem s50_71 {P : hbGP} {r : Nat} (hr : r < 100000000) (hP : gOk P) {R R' : Nat} (hRR : RR R R') (x1 x2 x4 x9 : Int32) {n h0 : Nat} {row : Nat → Nat} (hn : n ≤ 17408) (hrow : ∀ k, k < n → row k < 17408) : ∀ (f i : Nat) (σ : hbM), i + f = n → gI σ → gP σ = P → σ 44 4 = nI r → fI P r σ → (∀ k, k < n → σ R k = nI (row k)) →
    ∃ σ', hb_run hbSH 50 (71, [.ref 50, .int x1, .int x2, .int 4, .int x4, .int (nI (h0 + cnt (fun k => bP (hang (gOn P) (row k))) i)), .ref R, .ref R', .int (nI n), .int x9, .int (nI i)], [], σ) = hb_run hbSH 50 (71, [.ref 50, .int x1, .int x2, .int 4, .int x4, .int (nI (h0 + cnt (fun k => bP (hang (gOn P) (row k))) n)), .ref R, .ref R', .int (nI n), .int x9, .int (nI n)], [], σ') ∧ (∀ c, c ≠ 52 → σ' c = σ c) ∧ fI P r σ' := by
  intro f
  induction f with
  | zero =>
    intro i σ hi hg hP' h4 hI hR
    obtain rfl : i = n := by omega
    exact ⟨σ, rfl, fun _ _ => rfl, hI⟩
  | succ f ih =>
    intro i σ hi hg hP' h4 hI hR
    obtain ⟨σ1, w, c1, c2, c3, c4⟩ := s57 hr hP hg hP' h4 hI (hrow i (by omega))
    have hcS := c52 c2
    have fR : R ≠ 52 := by rcases hRR.l with z | z <;> omega
    obtain ⟨σ2, d1, d2, d3⟩ := ih (i + 1) σ1 (by omega) (cS_gI hcS hg) ((cS_gP hcS).trans hP') (by rw [c2 44 (by omega)]; exact h4) c3 (fun k hk => by rw [c2 R fR]; exact hR k hk)
    refine ⟨σ2, ?_, fun c hc => (d2 c hc).trans (c2 c hc), d3⟩
    rw [cnt_s] at d1
    rw [re50_71 hRR, if_neg (by rw [q_le (by omega) (by omega)]; omega), if_neg (fun z => z rfl), q_inT (by omega) (by omega), hb_g_t, hb_g_nil, q_cl (by omega), hR i (by omega), c1, hb_ci_s]
    rcases c4 with ⟨rfl, h⟩ | ⟨rfl, h⟩
    · have hb : bP (hang (gOn P) (row i)) = false := bP_eq (b := false) ⟨fun z => (by cases z), fun z => absurd z h⟩
      rw [if_pos (by decide), re50_103 hRR, show (0 : Int32) = hbb false from rfl, s111 hbSH1, hb_ci_s, nI_1, show hbb false = nI 0 from rfl, q_add]
      rw [hb, if_neg (by decide)] at d1
      exact d1
    · have hb : bP (hang (gOn P) (row i)) = true := bP_iff.mpr h
      rw [if_neg (by decide), re50_103 hRR, show (1 : Int32) = hbb true from rfl, s111 hbSH1, hb_ci_s, show hbb true = nI 1 from rfl, q_add, q_add]
      rw [hb, if_pos rfl, ← Nat.add_assoc] at d1
      exact d1
theorem s50_loop {P : hbGP} {bd gd : Nat → Bool} {r st sl w : Nat} {t : Bool} (hP : gOk P) (hr : r < 100000000) (hst : st < 1024) (hsl : sl ≤ 2) (hw : w < 5) (ht : t = decide (w = 1)) (x1 : Int32) : ∀ (f l R R' : Nat) (σ : hbM) (n : Nat) (row : Nat → Nat) (x4 x5 : Int32), l + f = sl + 1 → RR R R' → tI P bd gd r (Rch (tE P sl) (fun a => a = st)) σ → fI P r σ → σ 50 5 = hbb t → (l ≤ sl → Lv σ r l R n row) → (∀ p j, l < j → j < 3 → p < 17408 → mk σ r p j = false) →
    (tOv t σ ∨ (tm σ r st = true ∧ (∀ x, x < 17408 * l → tm σ r x = true → (∀ y, tE P sl x y → tm σ r y = true) ∧ (gOn P (x % 17408) = none → tEd σ r (x % 1024) = true)) ∧ x4 = nI (cnt (tm σ r) (17408 * l)) ∧ (w = 4 → x5 = nI (cnt (fun x => tm σ r x && bP (hang (gOn P) (x % 17408))) (17408 * l))))) →
    ∃ σ', hb_run hbSH 50 (43, [.ref 50, .int x1, .int (nI sl), .int (nI w), .int x4, .int x5, .ref R, .ref R', .int (nI n), .int (nI l), .ref R'], [], σ) = some (some (.int (aThr P bd gd st sl w)), σ') ∧ cS σ σ' ∧ rI σ' r ∧ (∀ s, s < 1024 → ∃ v, v ≤ r ∧ σ' 51 s = nI v) ∧ fB σ' r := by
  intro f
  induction f with
  | zero =>
    intro l R R' σ n row x4 x5 hl hRR hI hF h5 hL h0 hC
    obtain ⟨⟨g1, g2, g3, g4, g5⟩, ⟨h, hh1, hh2⟩, k3, k4, k5, k6, k7⟩ := id hI
    refine ⟨σ, ?_, cS.rf σ, g3, k4, hF.1⟩
    obtain rfl : l = sl + 1 := by omega
    rw [re50_43 hRR, if_pos (by rw [q_lt (by omega) (by omega)]; omega)]
    rcases hC with ⟨hO1, hO2⟩ | ⟨hC1, hC2, hC3, hC4⟩
    · have hw1 : w = 1 := by rw [hO1] at ht; exact of_decide_eq_true ht.symm
      subst hw1
      rw [if_neg (by decide), if_pos (by decide), aThr_1, hO2]
      have : tHarm P bd sl st = true := by
        have hht : h = true := by
          rw [hh1] at hO2
          cases h
          · exact absurd hO2 (by decide)
          · rfl
        obtain ⟨x, x1, x2, x3⟩ := hh2.mp hht
        exact bP_iff.mpr ⟨x, bP_iff.mpr (k3 x x1 x2), x3⟩
      rw [this, show (1 : Int32) = hbb true from rfl, s111 hbSH1, hb_ci_s]
    · have hlt : ∀ x, Rch (tE P sl) (fun a => a = st) x → x < 17408 * (sl + 1) := fun x hx => Rch_lt hP (by omega) hx
      have hV : (fun x => decide (x < 52224) && tm σ r x) = tC P sl st := by
        refine tC_of (by show (decide (st < 52224) && tm σ r st) = true; rw [hC1, decide_eq_true (by omega)]; rfl) (fun a b ha e => ?_) (fun a ha => ?_)
        · simp only [Bool.and_eq_true, decide_eq_true_eq] at ha ⊢
          have hRa := k3 a ha.1 ha.2
          have hRb := hRa.step e
          exact ⟨by have := hlt b hRb; omega, (hC2 a (hlt a hRa) ha.2).1 b e⟩
        · simp only [Bool.and_eq_true, decide_eq_true_eq] at ha
          exact k3 a ha.1 ha.2
      have htc : ∀ x, x < 52224 → tC P sl st x = tm σ r x := fun x hx => by
        rw [← hV]
        show (decide (x < 52224) && tm σ r x) = tm σ r x
        rw [decide_eq_true hx]; rfl
      have htc0 : ∀ x, 17408 * (sl + 1) ≤ x → tC P sl st x = false := fun x hx => by
        cases hb : tC P sl st x with
        | false => rfl
        | true => have := hlt x (bP_iff.mp hb); omega
      have hed : ∀ s, s < 1024 → tEd σ r s = tEnd P sl st s := fun s hs => by
        unfold tEnd
        refine (bP_eq ?_).symm
        constructor
        · intro z
          obtain ⟨x, x1, x2, x3, x4⟩ := k7 s hs z
          exact ⟨x, by rw [htc x x1]; exact x2, x3, x4⟩
        · rintro ⟨x, x2, x3, x4⟩
          have hx := hlt x (bP_iff.mp x2)
          rw [htc x (by omega)] at x2
          rw [← x4]
          exact (hC2 x hx x2).2 x3
      rcases (show w = 0 ∨ w = 1 ∨ w = 2 ∨ w = 3 ∨ w = 4 by omega) with rfl | rfl | rfl | rfl | rfl
      · rw [if_pos (by decide), aThr_0, hC3, cnt_cut (f := tC P sl st) (a := 17408 * (sl + 1)) (by omega) (fun x h1 _ => htc0 x h1)]
        exact q_rs _ (congrArg nI (cnt_eq _ (fun x hx => (htc x (by omega)).symm)))
      · rw [if_neg (by decide), if_pos (by decide), aThr_1, hh1, s111 hbSH1, hb_ci_s]
        have : tHarm P bd sl st = h := by
          unfold tHarm
          refine bP_eq (hh2.trans ?_)
          constructor
          · rintro ⟨x, x1, x2, x3⟩
            exact ⟨x, by rw [htc x x1]; exact x2, x3⟩
          · rintro ⟨x, x2, x3⟩
            have hx := hlt x (bP_iff.mp x2)
            exact ⟨x, by omega, by rw [← htc x (by omega)]; exact x2, x3⟩
        rw [this]
      · rw [if_neg (by decide), if_neg (by decide), if_pos (by decide), aThr_2, k5]
        exact q_rs _ (congrArg nI (cnt_eq _ (fun s hs => hed s hs)))
      · rw [if_neg (by decide), if_neg (by decide), if_neg (by decide), if_pos (by decide), aThr_3, k6]
        exact q_rs _ (congrArg nI (cnt_eq _ (fun s hs => by
          show (tEd σ r s && gd s) = (tEnd P sl st s && gd s)
          rw [hed s hs])))
      · rw [if_neg (by decide), if_neg (by decide), if_neg (by decide), if_neg (by decide), aThr_4, hC4 rfl, cnt_cut (f := fun x => tC P sl st x && bP (hang (gOn P) (x % 17408))) (a := 17408 * (sl + 1)) (by omega) (fun x h1 _ => by
          show (tC P sl st x && _) = false
          rw [htc0 x h1]; rfl)]
        exact q_rs _ (congrArg nI (cnt_eq _ (fun x hx => by
          show (tm σ r x && bP (hang (gOn P) (x % 17408))) = (tC P sl st x && bP (hang (gOn P) (x % 17408)))
          rw [htc x (by omega)])))
  | succ f ih =>
    intro l R R' σ n row x4 x5 hl hRR hI hF h5 hL h0 hC
    have hl3 : l < 3 := by omega
    have hdm : ∀ p, p < 17408 → (17408 * l + p) % 17408 = p ∧ (17408 * l + p) / 17408 = l := fun p hp => by omega
    obtain ⟨σ1, n1, row1, c1, c2, c3, c4, c5⟩ := s53 (t := t) hRR hP hl3 (S := Rch (tE P sl) (fun a => a = st)) (fun p q hp hSp e => hSp.step (Or.inl ⟨q, by rw [(hdm p hp).1]; exact e, by rw [(hdm p hp).2]⟩)) hI h5 (hL (by omega))
    have hn1 : n1 ≤ 17408 := by rw [c4.2.2]; exact cnt_le _ _
    have h51 : σ1 50 5 = hbb t := by rw [c2.2.2.1]; exact h5
    have hF1 : fI P r σ1 := by
      unfold fI fB fV ft tn
      rw [c2.2.1]; exact hF
    have hlow : ∀ p j, j < 3 → j ≠ l → mk σ1 r p j = mk σ r p j := c2.2.2.2.2.2.1
    -- the count of a level
    have hlev : ∀ g : Nat → Bool, cnt (fun x => tm σ1 r x && g (x % 17408)) (17408 * (l + 1)) = cnt (fun x => tm σ r x && g (x % 17408)) (17408 * l) + cnt (fun p => mk σ1 r p l && g p) 17408 := fun g => by
      rw [show 17408 * (l + 1) = 17408 * l + 17408 by omega, cnt_add]
      have e1 : cnt (fun x => tm σ1 r x && g (x % 17408)) (17408 * l) = cnt (fun x => tm σ r x && g (x % 17408)) (17408 * l) := cnt_eq _ (fun x hx => by
        show (mk σ1 r (x % 17408) (x / 17408) && _) = (mk σ r (x % 17408) (x / 17408) && _)
        rw [hlow _ _ (by omega) (by omega)])
      have e2 : cnt (fun i => tm σ1 r (17408 * l + i) && g ((17408 * l + i) % 17408)) 17408 = cnt (fun p => mk σ1 r p l && g p) 17408 := cnt_eq _ (fun p hp => by
        show (mk σ1 r ((17408 * l + p) % 17408) ((17408 * l + p) / 17408) && g ((17408 * l + p) % 17408)) = _
        rw [(hdm p hp).1, (hdm p hp).2])
      rw [e1, e2]
    -- the fates of a level
    have h71 : ∃ σ2 x5' x10, hb_run hbSH 50 (71, [.ref 50, .int x1, .int (nI sl), .int (nI w), .int (x4 + nI n1), .int x5, .ref R, .ref R', .int (nI n1), .int (nI l), .int 0], [], σ1) = (if nI sl ≤ nI l then hb_run hbSH 50 (139, [.ref 50, .int x1, .int (nI sl), .int (nI w), .int (x4 + nI n1), .int x5', .ref R, .ref R', .int (nI n1), .int (nI l), .int x10], [.int 0], σ2) else hb_ci (hb_ev hbSH 54 [.ref 50, .ref R, .int (nI n1), .ref R', .int (nI l + 1)] σ2) (fun y132 σ132 => hb_run hbSH 50 (139, [.ref 50, .int x1, .int (nI sl), .int (nI w), .int (x4 + nI n1), .int x5', .ref R, .ref R', .int (nI n1), .int (nI l), .int x10], [.int y132], σ132))) ∧ (∀ c, c ≠ 52 → σ2 c = σ1 c) ∧ fI P r σ2 ∧ (w = 4 → x5 = nI (cnt (fun x => tm σ r x && bP (hang (gOn P) (x % 17408))) (17408 * l)) → x5' = nI (cnt (fun x => tm σ1 r x && bP (hang (gOn P) (x % 17408))) (17408 * (l + 1)))) := by
      by_cases hw4 : w = 4 ∧ x5 = nI (cnt (fun x => tm σ r x && bP (hang (gOn P) (x % 17408))) (17408 * l))
      · obtain ⟨rfl, hx5⟩ := hw4
        obtain ⟨σ2, d1, d2, d3⟩ := s50_71 hr hP hRR x1 (nI sl) (x4 + nI n1) (nI l) (n := n1) (h0 := cnt (fun x => tm σ r x && bP (hang (gOn P) (x % 17408))) (17408 * l)) (row := row1) hn1 (fun k hk => (c4.1 k hk).2.1) n1 0 σ1 (by omega) c3.1.1 c3.1.2.1 c3.1.2.2.1.1 hF1 (fun k hk => (c4.1 k hk).1)
        refine ⟨σ2, nI (cnt (fun x => tm σ r x && bP (hang (gOn P) (x % 17408))) (17408 * l) + cnt (fun k => bP (hang (gOn P) (row1 k))) n1), nI n1, ?_, d2, d3, fun _ _ => ?_⟩
        · rw [hx5]
          refine Eq.trans d1 ?_
          rw [re50_71 hRR, if_pos (by rw [q_le (by omega) (by omega)]; omega)]
          rfl
        · rw [hlev (fun p => bP (hang (gOn P) p)), cnt_row (row := row1) c4.2.1 c4.2.2 (fun p => bP (hang (gOn P) p))]
      · by_cases hw5 : w = 4
        · have h0' : tOv t σ := by
            rcases hC with h | h
            · exact h
            · exact absurd ⟨hw5, h.2.2.2 hw5⟩ hw4
          have := h0'.1
          rw [ht, hw5] at this
          cases this
        · refine ⟨σ1, x5, 0, ?_, fun _ _ => rfl, hF1, fun z => absurd z hw5⟩
          rw [re50_71 hRR]
          by_cases z : nI n1 ≤ 0
          · rw [if_pos z]
          · rw [if_neg z, if_pos (fun y => hw5 (by rw [q_4, q_eq (by omega) (by omega)] at y; exact y))]
    obtain ⟨σ2, x5', x10, e1, e2, e3, e4⟩ := h71
    have hcS2 : cS σ1 σ2 := c52 e2
    have hmk2 : ∀ p j, mk σ2 r p j = mk σ1 r p j := fun p j => by unfold mk tn; rw [e2 48 (by omega)]
    have htm2 : ∀ x, tm σ2 r x = tm σ1 r x := fun x => hmk2 _ _
    have hed2 : ∀ s, tEd σ2 r s = tEd σ1 r s := fun s => by unfold tEd; rw [e2 51 (by omega)]
    have hI2 : tI P bd gd r (Rch (tE P sl) (fun a => a = st)) σ2 := by
      obtain ⟨⟨g1, g2, g3, g4, g5⟩, ⟨h, hh1, hh2⟩, k3, k4, k5, k6, k7⟩ := c3
      have he : tEd σ2 r = tEd σ1 r := funext hed2
      refine ⟨⟨cS_gI hcS2 g1, (cS_gP hcS2).trans g2, ⟨by rw [e2 44 (by omega)]; exact g3.1, g3.2.1, by rw [e2 48 (by omega)]; exact g3.2.2⟩, fun s hs => by rw [e2 11 (by omega)]; exact g4 s hs, fun s hs => by rw [e2 12 (by omega)]; exact g5 s hs⟩, ⟨h, by rw [e2 50 (by omega)]; exact hh1, by simp only [htm2]; exact hh2⟩, fun x hx hm => k3 x hx (by rw [← htm2]; exact hm), by rw [e2 51 (by omega)]; exact k4, by rw [e2 50 (by omega), he]; exact k5, by rw [e2 50 (by omega), he]; exact k6, fun s hs z => ?_⟩
      rw [he] at z
      obtain ⟨x, x1, x2, x3⟩ := k7 s hs z
      exact ⟨x, x1, by rw [htm2]; exact x2, x3⟩
    have h52 : σ2 50 5 = hbb t := by rw [e2 50 (by omega)]; exact h51
    have fR : R ≠ 52 := by rcases hRR.l with z | z <;> omega
    have hL2 : Lv σ2 r l R n1 row1 := by
      obtain ⟨l1, l2, l3⟩ := c4
      exact ⟨fun k hk => by rw [e2 R fR, hmk2]; exact l1 k hk, fun q hq z => l2 q hq (by rw [← hmk2]; exact z), by rw [l3]; exact cnt_eq _ (fun q _ => (hmk2 q l).symm)⟩
    have hcS12 : cS σ σ2 := c2.1.tr hcS2
    have hOv : ∀ σ', tOv t σ1 → (∃ h : Bool, σ' 50 6 = hbb h ∧ (h = true ↔ ∃ x, x < 52224 ∧ tm σ' r x = true ∧ bd (x % 1024) = true)) → (∀ x, x < 52224 → tm σ1 r x = true → tm σ' r x = true) → tOv t σ' := by
      rintro σ' ⟨z1, z2⟩ ⟨h', y1, y2⟩ hm
      obtain ⟨h, hh1, hh2⟩ := c3.2.1
      have hht : h = true := by
        rw [hh1] at z2
        cases h
        · exact absurd z2 (by decide)
        · rfl
      obtain ⟨x, x1, x2, x3⟩ := hh2.mp hht
      have := y2.mpr ⟨x, x1, hm x x1 x2, x3⟩
      exact ⟨z1, by rw [y1, this]; rfl⟩
    rw [re50_43 hRR, if_neg (by rw [q_lt (by omega) (by omega)]; omega), c1, hb_ci_s, e1]
    have hov0 : tOv t σ → tOv t σ1 := by
      rintro ⟨z1, z2⟩
      obtain ⟨h, hh1, hh2⟩ := hI.2.1
      obtain ⟨h', y1, y2⟩ := c3.2.1
      have hht : h = true := by
        rw [hh1] at z2
        cases h
        · exact absurd z2 (by decide)
        · rfl
      obtain ⟨x, x1, x2, x3⟩ := hh2.mp hht
      have := y2.mpr ⟨x, x1, c2.2.2.2.2.1 _ _ (by omega) x2, x3⟩
      exact ⟨z1, by rw [y1, this]; rfl⟩
    have hx4 : x4 = nI (cnt (tm σ r) (17408 * l)) → x4 + nI n1 = nI (cnt (tm σ1 r) (17408 * (l + 1))) := fun z => by
      have := hlev (fun _ => true)
      simp only [Bool.and_true] at this
      rw [z, q_add, c4.2.2]
      exact congrArg nI this.symm
    have hupm : ∀ p j, j < 3 → mk σ r p j = true → mk σ1 r p j = true := c2.2.2.2.2.1
    by_cases hls : l < sl
    · -- slips to the next level
      rw [if_neg (by rw [q_le (by omega) (by omega)]; omega), nI_1]
      obtain ⟨σ3, n3, row3, f1, f2, f3, f4, f5⟩ := s54 (t := t) hRR hP (l := l) (by omega) (S := Rch (tE P sl) (fun a => a = st)) (fun p k q hp hSp e => by
        by_cases hk : k < 4
        · exact hSp.step (Or.inr ⟨by rw [(hdm p hp).2]; exact hls, k, q, hk, by rw [(hdm p hp).1]; exact e, by rw [(hdm p hp).2]⟩)
        · have e3 : gSl P p 3 = some q := by
            unfold gSl at e ⊢
            rw [if_neg (show ¬ k = 0 by omega), if_neg (show ¬ k = 1 by omega), if_neg (show ¬ k = 2 by omega)] at e
            exact e
          exact hSp.step (Or.inr ⟨by rw [(hdm p hp).2]; exact hls, 3, q, by omega, by rw [(hdm p hp).1]; exact e3, by rw [(hdm p hp).2]⟩)) hI2 h52 hL2 (fun p hp => by rw [hmk2, hlow p (l + 1) (by omega) (by omega)]; exact h0 p (l + 1) (by omega) (by omega) hp)
      rw [f1, hb_ci_s, re50_139 hRR, nI_1]
      have hlow3 : ∀ p j, j < 3 → j ≠ l + 1 → mk σ3 r p j = mk σ1 r p j := fun p j hj hn => by rw [f2.2.2.2.2.2.1 p j hj hn, hmk2]
      have hup3 : ∀ p j, j < 3 → mk σ1 r p j = true → mk σ3 r p j = true := fun p j hj z => f2.2.2.2.2.1 p j hj (by rw [hmk2]; exact z)
      obtain ⟨σ4, m1, m2, m3, m4, m5⟩ := ih (l + 1) R' R σ3 n3 row3 (x4 + nI n1) x5' (by omega) hRR.s f3 (by
        unfold fI fB fV ft tn
        rw [f2.2.1]; exact e3) (by rw [f2.2.2.1]; exact h52) (fun _ => f4) (fun p j h1 h2 hp => by rw [hlow3 p j h2 (by omega), hlow p j h2 (by omega)]; exact h0 p j (by omega) h2 hp) (by
        rcases hC with hC | ⟨hC1, hC2, hC3, hC4⟩
        · exact Or.inl (hOv σ3 (hov0 hC) f3.2.1 (fun x hx z => hup3 _ _ (by omega) z))
        · rcases c5 with c5 | c5
          · exact Or.inl (hOv σ3 c5 f3.2.1 (fun x hx z => hup3 _ _ (by omega) z))
          · rcases f5 with f5 | f5
            · exact Or.inl f5
            · have hcnt : ∀ g : Nat → Bool, cnt (fun x => tm σ1 r x && g (x % 17408)) (17408 * (l + 1)) = cnt (fun x => tm σ3 r x && g (x % 17408)) (17408 * (l + 1)) := fun g => cnt_eq _ (fun x hx => by
                show (mk σ1 r (x % 17408) (x / 17408) && _) = (mk σ3 r (x % 17408) (x / 17408) && _)
                rw [hlow3 _ _ (by omega) (by omega)])
              refine Or.inr ⟨hup3 _ _ (by omega) (hupm _ _ (by omega) hC1), fun x hx hm => ?_, ?_, fun hw4 => ?_⟩
              · by_cases hxl : x < 17408 * l
                · have hm0 : tm σ r x = true := by
                    show mk σ r (x % 17408) (x / 17408) = true
                    rw [← hlow _ _ (by omega) (by omega), ← hlow3 _ _ (by omega) (by omega)]; exact hm
                  obtain ⟨y1, y2⟩ := hC2 x hxl hm0
                  refine ⟨fun y e => ?_, fun e => f2.2.2.2.2.2.2 _ (by rw [hed2]; exact c2.2.2.2.2.2.2 _ (y2 e))⟩
                  have hy := y1 y e
                  have hyl := Rch_lt hP (show st < 17408 by omega) (hI.2.2.1 x (by omega) hm0 |>.step e)
                  exact hup3 _ _ (by omega) (hupm _ _ (by omega) hy)
                · have hxd : x / 17408 = l := by omega
                  have hm1 : mk σ1 r (x % 17408) l = true := by
                    rw [← hlow3 _ l (by omega) (by omega), ← hxd]; exact hm
                  obtain ⟨y1, y2⟩ := c5 (x % 17408) (by omega) hm1
                  refine ⟨fun y e => ?_, fun e => ?_⟩
                  · rcases e with ⟨q, e1', e2'⟩ | ⟨hlt', k, q, hk, e1', e2'⟩
                    · have hq := hP.1 _ _ (by omega) e1'
                      rw [e2', hxd]
                      show mk σ3 r ((17408 * l + q) % 17408) ((17408 * l + q) / 17408) = true
                      rw [(hdm q hq).1, (hdm q hq).2]
                      exact hup3 _ _ (by omega) (y1 q e1')
                    · have hq := hP.2.1 _ _ _ (by omega) e1'
                      obtain ⟨kk, hkk, ek⟩ := c4.2.1 (x % 17408) (by omega) hm1
                      have := f5 kk hkk k q hk (by rw [ek]; exact e1')
                      rw [e2', hxd]
                      show mk σ3 r ((17408 * (l + 1) + q) % 17408) ((17408 * (l + 1) + q) / 17408) = true
                      rw [show (17408 * (l + 1) + q) % 17408 = q by omega, show (17408 * (l + 1) + q) / 17408 = l + 1 by omega]
                      exact this
                  · have := y2 e
                    rw [show x % 17408 % 1024 = x % 1024 by omega] at this
                    exact f2.2.2.2.2.2.2 _ (by rw [hed2]; exact this)
              · have := hcnt (fun _ => true)
                simp only [Bool.and_true] at this
                rw [hx4 hC3]; exact congrArg nI this
              · rw [e4 hw4 (hC4 hw4)]
                exact congrArg nI (hcnt (fun p => bP (hang (gOn P) p))))
      exact ⟨σ4, m1, (hcS12.tr f2.1).tr m2, m3, m4, m5⟩
    · -- the last level
      have hleq : l = sl := by omega
      rw [if_pos (by rw [q_le (by omega) (by omega)]; omega), re50_139 hRR, nI_1]
      obtain ⟨σ4, m1, m2, m3, m4, m5⟩ := ih (l + 1) R' R σ2 0 row (x4 + nI n1) x5' (by omega) hRR.s hI2 e3 h52 (fun z => by omega) (fun p j h1 h2 hp => by rw [hmk2, hlow p j h2 (by omega)]; exact h0 p j (by omega) h2 hp) (by
        rcases hC with hC | ⟨hC1, hC2, hC3, hC4⟩
        · exact Or.inl (hOv σ2 (hov0 hC) hI2.2.1 (fun x hx z => by rw [htm2]; exact z))
        · rcases c5 with c5 | c5
          · exact Or.inl (hOv σ2 c5 hI2.2.1 (fun x hx z => by rw [htm2]; exact z))
          · refine Or.inr ⟨by rw [htm2]; exact hupm _ _ (by omega) hC1, fun x hx hm => ?_, ?_, fun hw4 => ?_⟩
            · rw [htm2] at hm
              by_cases hxl : x < 17408 * l
              · have hm0 : tm σ r x = true := by
                  show mk σ r (x % 17408) (x / 17408) = true
                  rw [← hlow _ _ (by omega) (by omega)]; exact hm
                obtain ⟨y1, y2⟩ := hC2 x hxl hm0
                refine ⟨fun y e => ?_, fun e => by rw [hed2]; exact c2.2.2.2.2.2.2 _ (y2 e)⟩
                have hy := y1 y e
                have hyl := Rch_lt hP (show st < 17408 by omega) (hI.2.2.1 x (by omega) hm0 |>.step e)
                rw [htm2]
                exact hupm _ _ (by omega) hy
              · have hxd : x / 17408 = l := by omega
                have hm1 : mk σ1 r (x % 17408) l = true := by rw [← hxd]; exact hm
                obtain ⟨y1, y2⟩ := c5 (x % 17408) (by omega) hm1
                refine ⟨fun y e => ?_, fun e => ?_⟩
                · rcases e with ⟨q, e1', e2'⟩ | ⟨hlt', _⟩
                  · have hq := hP.1 _ _ (by omega) e1'
                    rw [e2', hxd, htm2]
                    show mk σ1 r ((17408 * l + q) % 17408) ((17408 * l + q) / 17408) = true
                    rw [(hdm q hq).1, (hdm q hq).2]
                    exact y1 q e1'
                  · omega
                · have := y2 e
                  rw [show x % 17408 % 1024 = x % 1024 by omega] at this
                  rw [hed2]; exact this
            · rw [hx4 hC3]
              exact congrArg nI (cnt_eq _ (fun x _ => (htm2 x).symm))
            · rw [e4 hw4 (hC4 hw4)]
              exact congrArg nI (cnt_eq _ (fun x _ => by
                show (tm σ1 r x && _) = (tm σ2 r x && _)
                rw [htm2])))
      exact ⟨σ4, m1, hcS12.tr m2, m3, m4, m5⟩
