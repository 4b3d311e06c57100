/-! book: what both read -/
abbrev hbD : Type := hbF × hbL × hbL × (Nat × (Nat → Nat) × (Nat → Nat) × (Nat → Nat))
section
variable (c : Nat → Nat)
def pN (b k : Nat) : (Nat × Nat) ⊕ (Nat × Nat) := if c k < 100 then .inl (1, k) else if b ≤ c k - 100 then .inl (2, k) else .inr (k + 1, c k - 100)
def pC (k : Nat) : (Nat × Nat) ⊕ (Nat × Nat) := if c k < 7 ∨ 10 < c k then .inl (1, k) else match pN c (if c k < 9 then 4 else 2) (k + 1) with
  | .inl e => .inl e
  | .inr (k2, a) => if c k < 9 then .inr (k2, 64 * (c k - 7) + 8 * a) else match pN c 8 k2 with
    | .inl e => .inl e
    | .inr (k3, v) => .inr (k3, 64 * (c k - 7) + 8 * a + v)
def pE {α : Type} (k : Nat) (D : α) : (Nat × Nat) ⊕ (Nat × α) := if c k = 20 then .inr (k + 1, D) else .inl (1, k)
def addF (F : hbF) (v h : Nat) (r : Int) : hbF := (F.1 + 1, fun x => if x = F.1 then v else F.2.1 x, fun x => if x = F.1 then h else F.2.2.1 x, fun x => if x = F.1 then r else F.2.2.2 x)
def pFl (k : Nat) (F : hbF) : (Nat × Nat) ⊕ (Nat × hbF) := if 8 ≤ F.1 then .inl (3, k) else match pN c 4 (k + 1) with
  | .inl e => .inl e
  | .inr (k2, v) => match pN c 2 k2 with
    | .inl e => .inl e
    | .inr (k3, h) => if c k3 = 5 then pE c (k3 + 1) (addF F v h 1) else if c k3 = 6 then pE c (k3 + 1) (addF F v h (-1)) else .inl (1, k3)
def putC (L : hbL) (i v : Nat) : hbL := (L.1, fun x => if x = L.1 then i + 1 else L.2.1 x, fun x => if x = 3 * L.1 + i then v else L.2.2 x)
def pCd : Nat → Nat → Nat → hbL → (Nat × Nat) ⊕ (Nat × hbL)
  | 0, _, k, _ => .inl (if 7 ≤ c k ∧ c k ≤ 10 then 3 else 1, k)
  | f + 1, i, k, L => match pC c k with
    | .inl e => .inl e
    | .inr (k2, v) => if c k2 = 4 then pCd f (i + 1) (k2 + 1) (putC L i v) else pE c k2 ((putC L i v).1 + 1, (putC L i v).2.1, (putC L i v).2.2)
def pLn (k : Nat) (L : hbL) : (Nat × Nat) ⊕ (Nat × hbL) := if 4 ≤ L.1 then .inl (3, k) else pCd c 3 0 (k + 1) L
end
/-! book: the class reads -/
/-- the tokens lie split: starts s, codes c, m of them ahead of the end -/
def tkI (s c : Nat → Nat) (m : Nat) (σ : hbM) : Prop := m ≤ 400 ∧ c m = 21 ∧ (∀ k, k < m → c k ≠ 21) ∧ (∀ k, c k < 3000) ∧ (∀ k, s k ≤ 400) ∧ ∀ k, k ≤ m → σ 41 k = nI (s k) ∧ σ 42 k = nI (c k)
def cAt (c : Nat → Nat) (m k : Nat) (σ : hbM) : Prop := k ≤ m ∧ σ 43 5 = nI k ∧ σ 43 6 = nI (c k)
/-- what a reading method leaves: a fault, or a number and the next token -/
def cRd (s c : Nat → Nat) (m : Nat) (o : (Nat × Nat) ⊕ (Nat × Nat)) (σ σ' : hbM) (y : Int32) : Prop := (∀ x, x ≠ 43 → σ' x = σ x) ∧ match o with
  | .inl (f, k) => y = hbNO ∧ σ' 43 3 = nI f ∧ σ' 43 4 = nI (s k)
  | .inr (k, v) => y = nI v ∧ v < 1000 ∧ cAt c m k σ'
section
variable {s c : Nat → Nat} {m k : Nat} {σ : hbM}
theorem tkI.fr {σ' : hbM} (h : tkI s c m σ) (hf : ∀ x, x ≠ 43 → σ' x = σ x) : tkI s c m σ' := by
  obtain ⟨a, b, d, e, e2, f⟩ := h
  exact ⟨a, b, d, e, e2, by rw [hf 41 (by omega), hf 42 (by omega)]; exact f⟩
theorem s26 (hT : tkI s c m σ) (hA : cAt c m k σ) (hk : c k ≠ 21) : ∃ σ', hb_ev hbSH 26 [.ref 43] σ = some (none, σ') ∧ (∀ x, x ≠ 43 → σ' x = σ x) ∧ cAt c m (k + 1) σ' := by
  obtain ⟨t1, t2, t3, t4, _, t5⟩ := hT
  obtain ⟨a1, a2, a3⟩ := hA
  have hkm : k < m := by
    by_cases z : k = m
    · rw [z] at hk; exact absurd t2 hk
    · omega
  have := t4 k
  refine ⟨hb_up (hb_up σ 43 5 (nI (k + 1))) 43 6 (nI (c (k + 1))), ?_, fun x hx => by rw [um_c _ _ _ hx, um_c _ _ _ hx], by omega, by rw [um_i _ _ _ (by omega), um_s], um_s _ _ _ _⟩
  rw [v26, e26_0, a3, if_neg (fun z => hk (by rw [q_21, q_eq (by omega) (by omega)] at z; exact z)), a2, if_neg (by rw [q_400, q_le (by omega) (by omega)]; omega), nI_1, q_inT (by omega) (by omega), hb_g_t, hb_g_nil, q_cl (by omega), (t5 (k + 1) (by omega)).2]
theorem s25 (hT : tkI s c m σ) (hA : cAt c m k σ) (f : Nat) : ∃ σ', hb_ev hbSH 25 [.ref 43, .int (nI f)] σ = some (some (.int 0), σ') ∧ (∀ x, x ≠ 43 → σ' x = σ x) ∧ σ' 43 3 = nI f ∧ σ' 43 4 = nI (s k) := by
  obtain ⟨t1, t2, t3, t4, _, t5⟩ := hT
  obtain ⟨a1, a2, a3⟩ := hA
  refine ⟨hb_up (hb_up σ 43 3 (nI f)) 43 4 (nI (s k)), ?_, fun x hx => by rw [um_c _ _ _ hx, um_c _ _ _ hx], by rw [um_i _ _ _ (by omega), um_s], um_s _ _ _ _⟩
  rw [v25, e25_0, a2, q_inT (by omega) (by omega), hb_g_t, hb_g_nil, q_cl (by omega), (t5 k a1).1]
/-- readNumber -/
theorem s23 (hT : tkI s c m σ) (hA : cAt c m k σ) {b : Nat} (hb0 : 0 < b) (hb : b < 1000) : ∃ σ' y, hb_ev hbSH 23 [.ref 43, .int (nI b)] σ = some (some (.int y), σ') ∧ cRd s c m (pN c b k) σ σ' y := by
  have hc := hT.2.2.2.1 k
  have a3 := hA.2.2
  unfold pN
  by_cases h1 : c k < 100
  · obtain ⟨σ', r1, r2, r3, r4⟩ := s25 hT hA 1
    have hneg : nI (c k) - (100 : Int32) < 0 := by
      rw [show (100 : Int32) = nI 100 from rfl, show nI (c k) - nI 100 = iI ((c k : Int) - 100) from by rw [← i_n, ← i_n]; exact (Int32.ofInt_sub _ _).symm]
      exact (i_lt (a := (c k : Int) - 100) (b := 0) (by omega) (by omega) (by omega) (by omega)).mpr (by omega)
    refine ⟨σ', hbNO, ?_, by rw [if_pos h1]; exact ⟨r2, rfl, r3, r4⟩⟩
    rw [show nI 1 = (1 : Int32) from rfl] at r1
    rw [v23, e23_0, a3, if_pos hneg, if_neg (fun z => by rw [Int32.lt_iff_toInt_lt] at hneg; rw [Int32.le_iff_toInt_le] at z; omega), e23_27, r1, hb_ci_s]
  · rw [if_neg h1]
    have hs : nI (c k) - (100 : Int32) = nI (c k - 100) := by rw [q_100, q_sub (by omega)]
    by_cases h2 : b ≤ c k - 100
    · obtain ⟨σ', r1, r2, r3, r4⟩ := s25 hT hA 2
      refine ⟨σ', hbNO, ?_, by rw [if_pos h2]; exact ⟨r2, rfl, r3, r4⟩⟩
      rw [show nI 2 = (2 : Int32) from rfl] at r1
      rw [v23, e23_0, a3, hs, if_neg (nI_pos (by omega)), if_neg (by rw [q_lt (by omega) (by omega)]; omega), if_pos (by rw [q_0, q_le (by omega) (by omega)]; omega), e23_27, r1, hb_ci_s]
    · obtain ⟨σ', r1, r2, r3⟩ := s26 hT hA (by omega)
      refine ⟨σ', nI (c k - 100), ?_, by rw [if_neg h2]; exact ⟨r2, rfl, by omega, r3⟩⟩
      rw [v23, e23_0, a3, hs, if_neg (nI_pos (by omega)), if_pos (by rw [q_lt (by omega) (by omega)]; omega), r1, hb_cv_s]
theorem s69 (σ : hbM) {a b d : Nat} (ha : a < 4) (hb : b < 8) (hd : d < 8) : hb_ev hbSH 69 [.int (nI a), .int (nI b), .int (nI d)] σ = some (some (.int (nI (64 * a + 8 * b + d))), σ) := by
  rw [v69, e69_0, q_shl6 (by omega), q_shl3 (by omega), q_or, q_or, Nat.mul_comm a 64, Nat.mul_comm b 8, ← Nat.two_pow_add_eq_or_of_lt (i := 6) (by omega : 8 * b < 2 ^ 6), show 2 ^ 6 * a + 8 * b = 2 ^ 3 * (8 * a + b) by omega, ← Nat.two_pow_add_eq_or_of_lt (i := 3) (by omega : d < 2 ^ 3)]
theorem s21 (hT : tkI s c m σ) (hA : cAt c m k σ) : hb_ev hbSH 21 [.ref 43] σ = some (some (.int (hbo (if c k < 7 ∨ 10 < c k then none else some (c k - 7)))), σ) := by
  have hc := hT.2.2.2.1 k
  rw [v21, e21_0, hA.2.2]
  have e : ∀ d : Nat, d < 100 → ((nI (c k) = nI d) = (c k = d)) := fun d hd => q_eq (by omega) (by omega)
  rw [q_7, q_8, q_9, q_10]
  simp only [e 7 (by omega), e 8 (by omega), e 9 (by omega), e 10 (by omega)]
  by_cases h7 : c k = 7
  · rw [if_pos h7, if_neg (by omega), h7]; rfl
  · rw [if_neg h7]
    by_cases h8 : c k = 8
    · rw [if_pos h8, if_neg (by omega), h8]; rfl
    · rw [if_neg h8]
      by_cases h9 : c k = 9
      · rw [if_pos h9, if_neg (by omega), h9]; rfl
      · rw [if_neg h9]
        by_cases h10 : c k = 10
        · rw [if_pos h10, if_neg (by omega), h10]; rfl
        · rw [if_neg h10, if_pos (by omega)]; rfl
theorem pN_lt {b k k2 a : Nat} (h : pN c b k = .inr (k2, a)) : a < b := by
  unfold pN at h
  split at h
  · cases h
  · split at h
    · cases h
    · cases h; omega
/-- readCond -/
theorem s20 (hT : tkI s c m σ) (hA : cAt c m k σ) : ∃ σ' y, hb_ev hbSH 20 [.ref 43] σ = some (some (.int y), σ') ∧ cRd s c m (pC c k) σ σ' y ∧ ∀ k2 v, pC c k = .inr (k2, v) → v < 256 := by
  have hc := hT.2.2.2.1 k
  rw [v20, e20_0, s21 hT hA, hb_ci_s]
  unfold pC
  by_cases h1 : c k < 7 ∨ 10 < c k
  · obtain ⟨σ', r1, r2, r3, r4⟩ := s25 hT hA 1
    rw [show nI 1 = (1 : Int32) from rfl] at r1
    rw [if_pos h1, if_neg (fun z => z rfl), r1, hb_ci_s, if_pos h1]
    exact ⟨σ', hbNO, rfl, ⟨r2, rfl, r3, r4⟩, fun k2 v e => by cases e⟩
  · obtain ⟨σ1, a1, a2, a3⟩ := s26 hT hA (by omega)
    have hT1 := hT.fr a2
    rw [if_neg h1, show hbo (some (c k - 7)) = nI (c k - 7) from rfl, if_pos (nno (by omega)), a1, hb_cv_s, if_neg h1]
    have e0 : (nI (c k - 7) = (0 : Int32)) = (c k = 7) := by rw [q_0, q_eq (by omega) (by omega)]; exact propext (by omega)
    have e1 : (nI (c k - 7) = (1 : Int32)) = (c k = 8) := by rw [q_1, q_eq (by omega) (by omega)]; exact propext (by omega)
    simp only [e0, e1]
    have v1 : c k < 9 → ∃ σ' y, hb_run hbSH 20 (49, [.ref 43, .int (nI (c k - 7)), .int 1, .null, .null], [.int 4, .ref 43], σ1) = some (some (.int y), σ') ∧ cRd s c m (match pN c (if c k < 9 then 4 else 2) (k + 1) with
        | .inl e => .inl e
        | .inr (k2, a) => if c k < 9 then .inr (k2, 64 * (c k - 7) + 8 * a) else match pN c 8 k2 with
          | .inl e => .inl e
          | .inr (k3, v) => .inr (k3, 64 * (c k - 7) + 8 * a + v)) σ σ' y ∧ ∀ k2 v, (match pN c (if c k < 9 then 4 else 2) (k + 1) with
        | .inl e => .inl e
        | .inr (k2, a) => if c k < 9 then .inr (k2, 64 * (c k - 7) + 8 * a) else match pN c 8 k2 with
          | .inl e => .inl e
          | .inr (k3, v) => .inr (k3, 64 * (c k - 7) + 8 * a + v)) = (.inr (k2, v) : (Nat × Nat) ⊕ (Nat × Nat)) → v < 256 := fun h9 => by
      obtain ⟨σ2, y, b1, b2⟩ := s23 hT1 a3 (b := 4) (by omega) (by omega)
      rw [if_pos h9]
      rw [e20_49, q_4, b1, hb_ci_s]
      cases hp : pN c 4 (k + 1) with
      | inl e =>
        obtain ⟨f, k'⟩ := e
        rw [hp] at b2
        obtain ⟨b3, rfl, b4, b5⟩ := b2
        rw [if_neg (fun z => z rfl)]
        exact ⟨σ2, hbNO, rfl, ⟨fun x hx => (b3 x hx).trans (a2 x hx), rfl, b4, b5⟩, fun k2 v e => by cases e⟩
      | inr p =>
        obtain ⟨k2, a⟩ := p
        have ha := pN_lt hp
        rw [hp] at b2
        obtain ⟨b3, rfl, b4, b5⟩ := b2
        rw [if_pos (nno (by omega)), if_neg (by decide), show (0 : Int32) = nI 0 from rfl, s69 σ2 (by omega) (by omega) (by omega), hb_ci_s, Nat.add_zero]
        simp only [if_pos h9]
        exact ⟨σ2, _, rfl, ⟨fun x hx => (b3 x hx).trans (a2 x hx), rfl, by omega, b5⟩, fun k2 v e => by cases e; omega⟩
    have v2 : ¬ c k < 9 → ∃ σ' y, hb_run hbSH 20 (49, [.ref 43, .int (nI (c k - 7)), .int 0, .null, .null], [.int 2, .ref 43], σ1) = some (some (.int y), σ') ∧ cRd s c m (match pN c (if c k < 9 then 4 else 2) (k + 1) with
        | .inl e => .inl e
        | .inr (k2, a) => if c k < 9 then .inr (k2, 64 * (c k - 7) + 8 * a) else match pN c 8 k2 with
          | .inl e => .inl e
          | .inr (k3, v) => .inr (k3, 64 * (c k - 7) + 8 * a + v)) σ σ' y ∧ ∀ k2 v, (match pN c (if c k < 9 then 4 else 2) (k + 1) with
        | .inl e => .inl e
        | .inr (k2, a) => if c k < 9 then .inr (k2, 64 * (c k - 7) + 8 * a) else match pN c 8 k2 with
          | .inl e => .inl e
          | .inr (k3, v) => .inr (k3, 64 * (c k - 7) + 8 * a + v)) = (.inr (k2, v) : (Nat × Nat) ⊕ (Nat × Nat)) → v < 256 := fun h9 => by
      obtain ⟨σ2, y, b1, b2⟩ := s23 hT1 a3 (b := 2) (by omega) (by omega)
      rw [if_neg h9]
      rw [e20_49, q_2, b1, hb_ci_s]
      cases hp : pN c 2 (k + 1) with
      | inl e =>
        obtain ⟨f, k'⟩ := e
        rw [hp] at b2
        obtain ⟨b3, rfl, b4, b5⟩ := b2
        rw [if_neg (fun z => z rfl)]
        exact ⟨σ2, hbNO, rfl, ⟨fun x hx => (b3 x hx).trans (a2 x hx), rfl, b4, b5⟩, fun k2 v e => by cases e⟩
      | inr p =>
        obtain ⟨k2, a⟩ := p
        have ha := pN_lt hp
        rw [hp] at b2
        obtain ⟨b3, rfl, b4, b5⟩ := b2
        have hT2 := hT1.fr b3
        obtain ⟨σ3, y3, d1, d2⟩ := s23 hT2 b5 (b := 8) (by omega) (by omega)
        rw [if_pos (nno (by omega)), if_pos rfl, q_8, d1, hb_ci_s]
        simp only [if_neg h9]
        cases hp2 : pN c 8 k2 with
        | inl e =>
          obtain ⟨f, k'⟩ := e
          rw [hp2] at d2
          obtain ⟨d3, rfl, d4, d5⟩ := d2
          rw [if_neg (fun z => z rfl)]
          exact ⟨σ3, hbNO, rfl, ⟨fun x hx => (d3 x hx).trans ((b3 x hx).trans (a2 x hx)), rfl, d4, d5⟩, fun k2 v e => by cases e⟩
        | inr p2 =>
          obtain ⟨k3, v⟩ := p2
          have hv := pN_lt hp2
          rw [hp2] at d2
          obtain ⟨d3, rfl, d4, d5⟩ := d2
          rw [if_pos (nno (by omega)), s69 σ3 (by omega) (by omega) (by omega), hb_ci_s]
          exact ⟨σ3, _, rfl, ⟨fun x hx => (d3 x hx).trans ((b3 x hx).trans (a2 x hx)), rfl, by omega, d5⟩, fun k2 v e => by cases e; omega⟩
    by_cases h7 : c k = 7
    · rw [if_pos h7]; exact v1 (by omega)
    · rw [if_neg h7]
      by_cases h8 : c k = 8
      · rw [if_neg (fun z => z h8)]; exact v1 (by omega)
      · rw [if_pos h8]; exact v2 (by omega)
/-- readLineEnd -/
theorem s24 (hT : tkI s c m σ) (hA : cAt c m k σ) : ∃ σ' b, hb_ev hbSH 24 [.ref 43] σ = some (some (.int (hbb b)), σ') ∧ (∀ x, x ≠ 43 → σ' x = σ x) ∧ ((c k = 20 ∧ b = true ∧ cAt c m (k + 1) σ') ∨ (c k ≠ 20 ∧ b = false ∧ σ' 43 3 = nI 1 ∧ σ' 43 4 = nI (s k))) := by
  have hc := hT.2.2.2.1 k
  rw [v24, e24_0, hA.2.2]
  have e20 : (nI (c k) = (20 : Int32)) = (c k = 20) := q_eq (b := 20) (by omega) (by omega)
  simp only [e20]
  by_cases h : c k = 20
  · obtain ⟨σ', r1, r2, r3⟩ := s26 hT hA (by omega)
    rw [if_pos h, r1, hb_cv_s]
    exact ⟨σ', true, rfl, r2, Or.inl ⟨h, rfl, r3⟩⟩
  · obtain ⟨σ', r1, r2, r3, r4⟩ := s25 hT hA 1
    rw [show nI 1 = (1 : Int32) from rfl] at r1
    rw [if_neg h, r1, hb_ci_s]
    exact ⟨σ', false, rfl, r2, Or.inr ⟨h, rfl, r3, r4⟩⟩
end
