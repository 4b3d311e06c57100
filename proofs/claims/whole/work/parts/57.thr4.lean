/-! through: the class; marks, harm, endings -/
def tm (σ : hbM) (r x : Nat) : Bool := mk σ r (x % 17408) (x / 17408)
def tEd (σ : hbM) (r s : Nat) : Bool := decide (σ 51 s = nI r)
/-- a search is under way in round r; S holds of all that is marked -/
def tI (P : hbGP) (bd gd : Nat → Bool) (r : Nat) (S : Nat → Prop) (σ : hbM) : Prop :=
  (gI σ ∧ gP σ = P ∧ rI σ r ∧ (∀ s, s < 1024 → σ 11 s = hbb (bd s)) ∧ ∀ s, s < 1024 → σ 12 s = hbb (gd s)) ∧
  (∃ h : Bool, σ 50 6 = hbb h ∧ (h = true ↔ ∃ x, x < 52224 ∧ tm σ r x = true ∧ bd (x % 1024) = true)) ∧
  (∀ x, x < 52224 → tm σ r x = true → S x) ∧
  (∀ s, s < 1024 → ∃ v, v ≤ r ∧ σ 51 s = nI v) ∧ σ 50 7 = nI (cnt (tEd σ r) 1024) ∧ σ 50 8 = nI (cnt (fun s => tEd σ r s && gd s) 1024) ∧
  ∀ s, s < 1024 → tEd σ r s = true → ∃ x, x < 52224 ∧ tm σ r x = true ∧ gOn P (x % 17408) = none ∧ x % 1024 = s
/-- what a step of the search at level l with row R leaves -/
def tS (r l R : Nat) (σ σ' : hbM) : Prop := cS σ σ' ∧ σ' 52 = σ 52 ∧ σ' 50 5 = σ 50 5 ∧ (∀ R', R' = 45 ∨ R' = 46 → R' ≠ R → σ' R' = σ R') ∧ (∀ p j, j < 3 → mk σ r p j = true → mk σ' r p j = true) ∧ (∀ p j, j < 3 → j ≠ l → mk σ' r p j = mk σ r p j) ∧ ∀ s, tEd σ r s = true → tEd σ' r s = true
theorem tS.rf (r l R : Nat) (σ : hbM) : tS r l R σ σ := ⟨cS.rf σ, rfl, rfl, fun _ _ _ => rfl, fun _ _ _ h => h, fun _ _ _ _ => rfl, fun _ h => h⟩
theorem tS.tr {r l R : Nat} {a b c : hbM} (h1 : tS r l R a b) (h2 : tS r l R b c) : tS r l R a c := by
  obtain ⟨a1, a2, a3, a4, a5, a6, a7⟩ := h1
  obtain ⟨b1, b2, b3, b4, b5, b6, b7⟩ := h2
  exact ⟨a1.tr b1, b2.trans a2, b3.trans a3, fun R' h h' => (b4 R' h h').trans (a4 R' h h'), fun p j hj h => b5 p j hj (a5 p j hj h), fun p j hj h => (b6 p j hj h).trans (a6 p j hj h), fun s h => b7 s (a7 s h)⟩
theorem tI_put {P : hbGP} {bd gd : Nat → Bool} {r : Nat} {S : Nat → Prop} {σ σ' : hbM} {p l : Nat} (hI : tI P bd gd r S σ) (hc : cS σ σ') (hr : rI σ' r) (h51 : σ' 51 = σ 51) (h7 : σ' 50 7 = σ 50 7) (h8 : σ' 50 8 = σ 50 8)
    (hm : ∀ q j, j < 3 → mk σ' r q j = (mk σ r q j || (decide (q = p) && decide (j = l)))) (hp : p < 17408) (hl : l < 3) (hS : S (17408 * l + p))
    (h6 : ∀ h : Bool, σ 50 6 = hbb h → (h = true ↔ ∃ x, x < 52224 ∧ tm σ r x = true ∧ bd (x % 1024) = true) → σ' 50 6 = hbb (h || bd (p % 1024))) : tI P bd gd r S σ' := by
  obtain ⟨⟨g1, g2, g3, g4, g5⟩, ⟨h, hh1, hh2⟩, k3, k4, k5, k6, k7⟩ := hI
  have em : ∀ x, x < 52224 → (tm σ' r x = true ↔ tm σ r x = true ∨ x = 17408 * l + p) := fun x hx => by
    unfold tm
    rw [hm _ _ (by omega)]
    simp only [Bool.or_eq_true, Bool.and_eq_true, decide_eq_true_eq]
    constructor
    · rintro (h | ⟨h1, h2⟩)
      · exact Or.inl h
      · exact Or.inr (by omega)
    · rintro (h | h)
      · exact Or.inl h
      · exact Or.inr (by omega)
  have ee : tEd σ' r = tEd σ r := by funext s; unfold tEd; rw [h51]
  refine ⟨⟨cS_gI hc g1, (cS_gP hc).trans g2, hr, fun s hs => by rw [hc 11 (by omega)]; exact g4 s hs, fun s hs => by rw [hc 12 (by omega)]; exact g5 s hs⟩, ⟨h || bd (p % 1024), h6 h hh1 hh2, ?_⟩, fun x hx hm' => ?_, by rw [h51]; exact k4, by rw [h7, ee]; exact k5, by rw [h8, ee]; exact k6, fun s hs he => ?_⟩
  · constructor
    · intro z
      rw [Bool.or_eq_true] at z
      rcases z with z | z
      · obtain ⟨x, x1, x2, x3⟩ := hh2.mp z
        exact ⟨x, x1, (em x x1).mpr (Or.inl x2), x3⟩
      · refine ⟨17408 * l + p, by omega, (em _ (by omega)).mpr (Or.inr rfl), ?_⟩
        rw [show (17408 * l + p) % 1024 = p % 1024 by omega]; exact z
    · rintro ⟨x, x1, x2, x3⟩
      rcases (em x x1).mp x2 with z | z
      · rw [hh2.mpr ⟨x, x1, z, x3⟩]; rfl
      · rw [z, show (17408 * l + p) % 1024 = p % 1024 by omega] at x3
        rw [x3, Bool.or_true]
  · rcases (em x hx).mp hm' with z | z
    · exact k3 x hx z
    · rw [z]; exact hS
  · rw [ee] at he
    obtain ⟨x, x1, x2, x3⟩ := k7 s hs he
    exact ⟨x, x1, (em x x1).mpr (Or.inl x2), x3⟩
theorem s52_full (σ : hbM) (R l : Nat) (x : Int32) (hR : R = 45 ∨ R = 46) : hb_ev hbSH 52 [.ref 50, .ref R, .int (nI 17408), .int x, .int (nI l)] σ = some (some (.int (nI 17408)), σ) := by
  rcases hR with rfl | rfl
  · rw [v52a, e52_0a]
    by_cases h : x = (-1000000 : Int32)
    · rw [if_pos h]
    · rw [if_neg h, if_pos (by decide)]
  · rw [v52b, e52_0b]
    by_cases h : x = (-1000000 : Int32)
    · rw [if_pos h]
    · rw [if_neg h, if_pos (by decide)]
/-- put -/
theorem s52 {P : hbGP} {bd gd : Nat → Bool} {r : Nat} {S : Nat → Prop} {σ : hbM} {R n l : Nat} {row : Nat → Nat} (hR : R = 45 ∨ R = 46) (hl : l < 3) (hI : tI P bd gd r S σ) (hL : Lv σ r l R n row) (o : Option Nat) (ho : ∀ p, o = some p → p < 17408 ∧ S (17408 * l + p)) :
    ∃ σ' n' row', hb_ev hbSH 52 [.ref 50, .ref R, .int (nI n), .int (hbo o), .int (nI l)] σ = some (some (.int (nI n')), σ') ∧ tS r l R σ σ' ∧ tI P bd gd r S σ' ∧ Lv σ' r l R n' row' ∧ n ≤ n' ∧ (∀ k, k < n → row' k = row k) ∧ ∀ p, o = some p → mk σ' r p l = true := by
  have hn : n ≤ 17408 := by rw [hL.2.2]; exact cnt_le _ _
  cases o with
  | none => exact ⟨σ, n, row, s52_none σ R n l hR, tS.rf _ _ _ _, hI, hL, Nat.le_refl _, fun _ _ => rfl, fun p h => by cases h⟩
  | some p =>
    obtain ⟨hp, hS⟩ := ho p rfl
    have hr := hI.1.2.2.1
    cases hm : mk σ r p l with
    | true =>
      by_cases hn2 : n = 17408
      · subst hn2
        exact ⟨σ, 17408, row, s52_full σ R l _ hR, tS.rf _ _ _ _, hI, hL, Nat.le_refl _, fun _ _ => rfl, fun q h => by cases h; exact hm⟩
      · have hmk : ∀ q j, j < 3 → mk (eE σ r p l) r q j = mk σ r q j := fun q j hj => by
          rw [eE_mk hr hp hl hj]
          by_cases z : q = p ∧ j = l
          · rw [z.1, z.2, hm]; rfl
          · have : (decide (q = p) && decide (j = l)) = false := by
              rw [Bool.and_eq_false_iff]
              by_cases z1 : q = p
              · exact Or.inr (decide_eq_false (fun z2 => z ⟨z1, z2⟩))
              · exact Or.inl (decide_eq_false z1)
            rw [this, Bool.or_false]
        refine ⟨eE σ r p l, n, row, s52_old hR hr (by omega) hl hp hm, ⟨eE_cS _ _ _ _, eE_o _ _ _ _ (by omega), by rw [eE_o _ _ _ _ (show (50 : Nat) ≠ 48 by omega)], fun R' h _ => eE_o _ _ _ _ (by omega), fun q j hj h => by rw [hmk q j hj]; exact h, fun q j hj _ => hmk q j hj, fun s h => by unfold tEd at h ⊢; rw [eE_o _ _ _ _ (show (51 : Nat) ≠ 48 by omega)]; exact h⟩, ?_, ?_, Nat.le_refl _, fun _ _ => rfl, fun q h => by cases h; rw [hmk _ _ hl]; exact hm⟩
        · refine tI_put (p := p) (l := l) hI (eE_cS _ _ _ _) (eE_rI hr hl) (eE_o _ _ _ _ (by omega)) (by rw [eE_o _ _ _ _ (show (50 : Nat) ≠ 48 by omega)]) (by rw [eE_o _ _ _ _ (show (50 : Nat) ≠ 48 by omega)]) (fun q j hj => eE_mk hr hp hl hj) hp hl hS (fun h h1 h2 => ?_)
          rw [eE_o _ _ _ _ (show (50 : Nat) ≠ 48 by omega), h1]
          cases hb : bd (p % 1024) with
          | false => rw [Bool.or_false]
          | true =>
            have : h = true := h2.mpr ⟨17408 * l + p, by omega, by unfold tm; rw [show (17408 * l + p) % 17408 = p by omega, show (17408 * l + p) / 17408 = l by omega]; exact hm, by rw [show (17408 * l + p) % 1024 = p % 1024 by omega]; exact hb⟩
            rw [this]; rfl
        · obtain ⟨l1, l2, l3⟩ := hL
          refine ⟨fun k hk => ?_, fun q hq h => ?_, ?_⟩
          · obtain ⟨c1, c2, c3⟩ := l1 k hk
            exact ⟨by rw [eE_o _ _ _ _ (show R ≠ 48 by omega)]; exact c1, c2, by rw [hmk _ _ hl]; exact c3⟩
          · rw [hmk _ _ hl] at h; exact l2 q hq h
          · rw [l3]; exact cnt_eq _ (fun q _ => (hmk q l hl).symm)
    | false =>
      obtain ⟨h, hh1, hh2⟩ := hI.2.1
      have hcs := cnt_set (f := fun p => mk σ r p l) hm 17408 hp
      have hle := cnt_le (fun x => mk σ r x l || decide (x = p)) 17408
      have hnl : n < 17408 := by have := hL.2.2; omega
      have f50 : (50 : Nat) ≠ R := by omega
      have f50' : R ≠ 50 := by omega
      have f48 : R ≠ 48 := by omega
      have f44 : R ≠ 44 := by omega
      have fR : ∀ c, c < 44 ∨ 54 ≤ c → c ≠ R := fun c hc h => by rcases hR with z | z <;> omega
      have f52 : (52 : Nat) ≠ R := by omega
      have f51 : (51 : Nat) ≠ R := by omega
      generalize hσ' : hb_up (hb_up (eE σ r p l) 50 6 (hbb (h || bd (p % 1024)))) R n (nI p) = σ'
      have hmk : ∀ q j, j < 3 → mk σ' r q j = (mk σ r q j || (decide (q = p) && decide (j = l))) := fun q j hj => by
        rw [← hσ', mk.up _ _ _ _ _ _ (by omega), mk.up _ _ _ _ _ _ (by omega), eE_mk hr hp hl hj]
      have hoth : ∀ c, c ≠ 48 → c ≠ 50 → c ≠ R → σ' c = σ c := fun c h1 h2 h3 => by
        rw [← hσ', um_c _ _ _ h3, um_c _ _ _ h2, eE_o _ _ _ _ h1]
      have h50 : ∀ i, i ≠ 6 → σ' 50 i = σ 50 i := fun i hi => by
        rw [← hσ', um_c _ _ _ f50, um_i _ _ _ hi, eE_o _ _ _ _ (show (50 : Nat) ≠ 48 by omega)]
      have hcS : cS σ σ' := fun c hc => hoth c (by omega) (by omega) (fR c hc)
      have hmono : ∀ q j, j < 3 → mk σ r q j = true → mk σ' r q j = true := fun q j hj z => by rw [hmk q j hj, z]; rfl
      have hrow : ∀ k, σ' R k = if k = n then nI p else σ R k := fun k => by
        rw [← hσ', um_at, um_c _ _ _ f50', eE_o _ _ _ _ f48]
      refine ⟨σ', n + 1, fun k => if k = n then p else row k, ?_, ⟨hcS, hoth 52 (by omega) (by omega) f52, h50 5 (by omega), fun R' h1 h2 => hoth R' (by omega) (by omega) h2, hmono, fun q j hj hjl => by rw [hmk q j hj, decide_eq_false hjl, Bool.and_false, Bool.or_false], fun s z => by unfold tEd at z ⊢; rw [hoth 51 (by omega) (by omega) f51]; exact z⟩, ?_, ?_, by omega, fun k hk => if_neg (by omega), fun q z => by cases z; rw [hmk _ _ hl]; simp⟩
      · rw [s52_new hR hr hI.1.2.2.2.1 hh1 hnl hl hp hm, hσ']
      · refine tI_put (p := p) (l := l) hI hcS ?_ (hoth 51 (by omega) (by omega) f51) (h50 7 (by omega)) (h50 8 (by omega)) hmk hp hl hS (fun h' h1 h2 => ?_)
        · rw [← hσ']; exact ((eE_rI hr hl).up _ _ (by omega)).up _ _ ⟨f44, f48⟩
        · have : h' = h := bool_eq (h2.trans hh2.symm)
          rw [this, ← hσ', um_c _ _ _ f50, um_s]
      · obtain ⟨l1, l2, l3⟩ := hL
        refine ⟨fun k hk => ?_, fun q hq z => ?_, ?_⟩
        · show σ' R k = nI (if k = n then p else row k) ∧ (if k = n then p else row k) < 17408 ∧ mk σ' r (if k = n then p else row k) l = true
          rw [hrow]
          by_cases z : k = n
          · rw [if_pos z, if_pos z]
            exact ⟨rfl, hp, by rw [hmk _ _ hl]; simp⟩
          · rw [if_neg z, if_neg z]
            obtain ⟨c1, c2, c3⟩ := l1 k (by omega)
            exact ⟨c1, c2, hmono _ _ hl c3⟩
        · by_cases y : q = p
          · exact ⟨n, by omega, by show (if n = n then p else row n) = q; rw [if_pos rfl, y]⟩
          · rw [hmk _ _ hl, decide_eq_false y, Bool.false_and, Bool.or_false] at z
            obtain ⟨k, k1, k2⟩ := l2 q hq z
            exact ⟨k, by omega, by show (if k = n then p else row k) = q; rw [if_neg (by omega)]; exact k2⟩
        · rw [l3, ← hcs]
          exact cnt_eq _ (fun q _ => by
            show (mk σ r q l || decide (q = p)) = mk σ' r q l
            rw [hmk _ _ hl, decide_eq_true (rfl : l = l), Bool.and_true])
/-- isOver -/
theorem s55 (σ : hbM) {h t : Bool} (h6 : σ 50 6 = hbb h) (h5 : σ 50 5 = hbb t) : hb_ev hbSH 55 [.ref 50] σ = some (some (.int (hbb (h && t))), σ) := by
  rw [v55, e55_0, h6, h5]
  cases h <;> cases t <;> rfl
theorem cnt_aset {D g : Nat → Bool} {p N : Nat} (hD : D p = false) (hp : p < N) : cnt (fun s => (D s || decide (s = p)) && g s) N = cnt (fun s => D s && g s) N + (if g p = true then 1 else 0) := by
  have hcs := cnt_set (f := fun s => D s && g s) (p := p) (by show (D p && g p) = false; rw [hD]; rfl) N hp
  cases hb : g p with
  | true =>
    rw [if_pos rfl, ← hcs]
    apply cnt_eq
    intro s _
    by_cases z : s = p
    · simp only [z, hb]; simp
    · simp [z]
  | false =>
    rw [if_neg (fun z => by cases z), Nat.add_zero]
    apply cnt_eq
    intro s _
    by_cases z : s = p
    · simp only [z, hb]; simp
    · simp [z]
/-- endIn -/
theorem s56 {P : hbGP} {bd gd : Nat → Bool} {r : Nat} {S : Nat → Prop} {σ : hbM} (l R n : Nat) {row : Nat → Nat} (hR : R = 45 ∨ R = 46) (hI : tI P bd gd r S σ) (hL : Lv σ r l R n row) {s : Nat} (hs : s < 1024) (hx : ∃ x, x < 52224 ∧ tm σ r x = true ∧ gOn P (x % 17408) = none ∧ x % 1024 = s) :
    ∃ σ', hb_ev hbSH 56 [.ref 50, .int (nI s)] σ = some (none, σ') ∧ tS r l R σ σ' ∧ tI P bd gd r S σ' ∧ Lv σ' r l R n row ∧ tEd σ' r s = true := by
  have hin : hb_in (nI s) 1024 = true := q_inT (by omega) hs
  obtain ⟨⟨g1, g2, g3, g4, g5⟩, ⟨h, hh1, hh2⟩, k3, k4, k5, k6, k7⟩ := id hI
  by_cases he : σ 51 s = nI r
  · refine ⟨σ, ?_, tS.rf _ _ _ _, hI, hL, decide_eq_true he⟩
    rw [v56, e56_0, hin, hb_g_t, hb_g_nil, q_cl (by omega), g3.1, if_pos he]
  · have hc1 := cnt_le (tEd σ r) 1024
    have hc2 := cnt_le (fun s => tEd σ r s && gd s) 1024
    generalize hσ' : hb_up (hb_up (hb_up σ 51 s (nI r)) 50 7 (nI (cnt (tEd σ r) 1024 + 1))) 50 8 (nI (cnt (fun s => tEd σ r s && gd s) 1024 + (if gd s = true then 1 else 0))) = σ'
    have hoth : ∀ c, c ≠ 51 → c ≠ 50 → σ' c = σ c := fun c h1 h2 => by rw [← hσ', um_c _ _ _ h2, um_c _ _ _ h2, um_c _ _ _ h1]
    have h50 : ∀ i, i ≠ 7 → i ≠ 8 → σ' 50 i = σ 50 i := fun i h1 h2 => by rw [← hσ', um_i _ _ _ h2, um_i _ _ _ h1, um_c _ _ _ (by omega)]
    have h51 : ∀ i, σ' 51 i = if i = s then nI r else σ 51 i := fun i => by rw [← hσ', um_c _ _ _ (by omega), um_c _ _ _ (by omega), um_at]
    have hcS : cS σ σ' := fun c hc => hoth c (by omega) (by omega)
    have hmk : ∀ p j, mk σ' r p j = mk σ r p j := fun p j => by unfold mk tn; rw [hoth 48 (by omega) (by omega)]
    have htm : ∀ x, tm σ' r x = tm σ r x := fun x => hmk _ _
    have hted : tEd σ' r = fun i => tEd σ r i || decide (i = s) := by
      funext i
      unfold tEd
      rw [h51]
      by_cases z : i = s
      · rw [if_pos z, decide_eq_true z, Bool.or_true]; exact decide_eq_true rfl
      · rw [if_neg z, decide_eq_false z, Bool.or_false]
    refine ⟨σ', ?_, ⟨hcS, hoth 52 (by omega) (by omega), h50 5 (by omega) (by omega), fun R' h1 _ => hoth R' (by omega) (by omega), fun p j _ z => by rw [hmk]; exact z, fun p j _ _ => hmk p j, fun i z => by rw [hted]; simp [z]⟩, ?_, ?_, by rw [hted]; simp⟩
    · rw [v56, e56_0, hin, hb_g_t, hb_g_nil, q_cl (by omega), g3.1, if_neg he, hb_g_t, hb_g_t, hb_g_nil, g5 s hs, s111 hbSH1, hb_ci_s, k5, k6, nI_1, hbb_n, q_add, hσ']
    · refine ⟨⟨cS_gI hcS g1, (cS_gP hcS).trans g2, ?_, fun s hs => by rw [hcS 11 (by omega)]; exact g4 s hs, fun s hs => by rw [hcS 12 (by omega)]; exact g5 s hs⟩, ⟨h, by rw [h50 6 (by omega) (by omega)]; exact hh1, by simp only [htm]; exact hh2⟩, fun x hx' hm => k3 x hx' (by rw [← htm]; exact hm), fun i hi => ?_, ?_, ?_, fun i hi z => ?_⟩
      · rw [← hσ']; exact ((g3.up _ _ (by omega)).up _ _ (by omega)).up _ _ (by omega)
      · rw [h51]
        by_cases z : i = s
        · rw [if_pos z]; exact ⟨r, Nat.le_refl _, rfl⟩
        · rw [if_neg z]; exact k4 i hi
      · have := cnt_set (f := tEd σ r) (p := s) (decide_eq_false he) 1024 hs
        rw [hted, this, ← hσ', um_i _ _ _ (by omega), um_s]
      · have := cnt_aset (D := tEd σ r) (g := gd) (p := s) (N := 1024) (decide_eq_false he) hs
        rw [hted, this, ← hσ', um_s]
      · rw [hted] at z
        simp only [Bool.or_eq_true, decide_eq_true_eq] at z
        rcases z with z | z
        · obtain ⟨x, x1, x2, x3⟩ := k7 i hi z
          exact ⟨x, x1, by rw [htm]; exact x2, x3⟩
        · obtain ⟨x, x1, x2, x3⟩ := hx
          rw [z]
          exact ⟨x, x1, by rw [htm]; exact x2, x3⟩
    · obtain ⟨l1, l2, l3⟩ := hL
      refine ⟨fun k hk => by rw [hoth R (by omega) (by omega), hmk]; exact l1 k hk, fun q hq z => l2 q hq (by rw [← hmk]; exact z), by rw [l3]; exact cnt_eq _ (fun q _ => (hmk q l).symm)⟩
