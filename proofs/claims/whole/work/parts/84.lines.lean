/-! book: the class's lines -/
abbrev hbSt : Type := Nat × (Nat → Nat) × (Nat → Nat) × (Nat → Nat)
def aOf (x : Nat) : Option Nat := if x = 7 then some 0 else if x = 8 then some 1 else if x = 11 then some 2 else if x = 12 then some 3 else if x = 13 then some 4 else if x = 14 then some 5 else none
def addS (S : hbSt) (a t v : Nat) : hbSt := (S.1 + 1, fun x => if x = S.1 then a else S.2.1 x, fun x => if x = S.1 then t else S.2.2.1 x, fun x => if x = S.1 then v else S.2.2.2 x)
section
variable (c : Nat → Nat)
def pTg (a k : Nat) : (Nat × Nat) ⊕ (Nat × Nat) := if a = 0 ∨ a = 1 then pN c 4 k else if a = 3 ∨ a = 4 then pN c 16 k else .inr (k, 0)
def pCo (a k : Nat) : (Nat × Nat) ⊕ (Nat × Nat) := if a = 2 ∨ a = 3 then pC c k else .inr (k, 0)
def pSt (k : Nat) (S : hbSt) : (Nat × Nat) ⊕ (Nat × hbSt) := if 16 ≤ S.1 then .inl (3, k) else match aOf (c (k + 1)) with
  | none => .inl (1, k + 1)
  | some a => match pCo c a (k + 2) with
    | .inl e => .inl e
    | .inr (k2, v) => match pTg c a k2 with
      | .inl e => .inl e
      | .inr (k3, t) => pE c k3 (addS S a t v)
end
def kF (σ : hbM) (F : hbF) : Prop := ∀ i, i < F.1 → σ 7 i = nI (F.2.1 i) ∧ σ 8 i = nI (F.2.2.1 i) ∧ σ 9 i = iI (F.2.2.2 i)
def kL (σ : hbM) (L : hbL) (q : Nat) : Prop := ∀ i, i < L.1 → σ (q + 2) i = nI (L.2.1 i) ∧ ∀ j, j < L.2.1 i → σ (q + 1) (3 * i + j) = nI (L.2.2 (3 * i + j))
def kS (σ : hbM) (S : hbSt) : Prop := ∀ i, i < S.1 → σ 32 i = nI (S.2.1 i) ∧ σ 33 i = nI (S.2.2.1 i) ∧ σ 34 i = nI (S.2.2.2 i)
/-- what a line leaves -/
def cLn {α : Type} (s c : Nat → Nat) (m : Nat) (o : (Nat × Nat) ⊕ (Nat × α)) (K0 : hbM → Prop) (K1 : α → hbM → Prop) (σ' : hbM) (b : Bool) : Prop := match o with
  | .inl (f, k) => b = false ∧ σ' 43 3 = nI f ∧ σ' 43 4 = nI (s k) ∧ K0 σ'
  | .inr (k, a) => b = true ∧ cAt c m k σ' ∧ K1 a σ'
section
variable {s c : Nat → Nat} {m k : Nat} {σ : hbM}
theorem pE_ln {α : Type} {K0 : hbM → Prop} {K1 : α → hbM → Prop} (hT : tkI s c m σ) (hA : cAt c m k σ) (D : α) (h0 : ∀ σ' : hbM, (∀ x, x ≠ 43 → σ' x = σ x) → K0 σ') (h1 : ∀ σ' : hbM, (∀ x, x ≠ 43 → σ' x = σ x) → K1 D σ') : ∃ σ' b, hb_ev hbSH 24 [.ref 43] σ = some (some (.int (hbb b)), σ') ∧ (∀ x, x ≠ 43 → σ' x = σ x) ∧ cLn s c m (pE c k D) K0 K1 σ' b := by
  obtain ⟨σ', b, r1, r2, r3⟩ := s24 hT hA
  refine ⟨σ', b, r1, r2, ?_⟩
  unfold pE
  rcases r3 with ⟨a1, a2, a3⟩ | ⟨a1, a2, a3, a4⟩
  · rw [if_pos a1]; exact ⟨a2, a3, h1 σ' r2⟩
  · rw [if_neg a1]; exact ⟨a2, a3, a4, h0 σ' r2⟩
/-- readFlow -/
theorem s16 {F : hbF} (hF8 : F.1 ≤ 8) (hT : tkI s c m σ) (hA : cAt c m k σ) (hk : c k ≠ 21) (h9 : σ 0 9 = nI F.1) (hK : kF σ F) :
    ∃ σ' b, hb_ev hbSH 16 [.ref 43] σ = some (some (.int (hbb b)), σ') ∧ (∀ x, x ≠ 43 → x ≠ 0 → x ≠ 7 → x ≠ 8 → x ≠ 9 → σ' x = σ x) ∧ (∀ i, i ≠ 9 → σ' 0 i = σ 0 i) ∧ cLn s c m (pFl c k F) (fun σ' => kF σ' F) (fun F' σ' => σ' 0 9 = nI F'.1 ∧ kF σ' F') σ' b := by
  have kfr : ∀ {σ1 : hbM}, (∀ x, x ≠ 43 → σ1 x = σ x) → kF σ1 F := fun h => by unfold kF; rw [h 7 (by omega), h 8 (by omega), h 9 (by omega)]; exact hK
  rw [v16, e16_0, h9]
  unfold pFl
  by_cases h8 : 8 ≤ F.1
  · obtain ⟨σ', r1, r2, r3, r4⟩ := s25 hT hA 3
    rw [show nI 3 = (3 : Int32) from rfl] at r1
    rw [if_neg (by rw [q_8, q_lt (by omega) (by omega)]; omega), r1, hb_ci_s, if_pos h8]
    exact ⟨σ', false, rfl, fun x a _ _ _ _ => r2 x a, fun i _ => by rw [r2 0 (by omega)], rfl, r3, r4, kfr r2⟩
  · obtain ⟨σ1, a1, a2, a3⟩ := s26 hT hA hk
    have hT1 := hT.fr a2
    obtain ⟨σ2, y, b1, b2⟩ := s23 hT1 a3 (b := 4) (by omega) (by omega)
    rw [if_pos (by rw [q_8, q_lt (by omega) (by omega)]; omega), a1, hb_cv_s, q_4, b1, hb_ci_s, if_neg h8]
    cases hp : pN c 4 (k + 1) with
    | inl e =>
      obtain ⟨f, k'⟩ := e
      rw [hp] at b2
      obtain ⟨b3, rfl, b4, b5⟩ := b2
      have fr := fun x hx => (b3 x hx).trans (a2 x hx)
      rw [if_neg (fun z => z rfl)]
      exact ⟨σ2, false, rfl, fun x a _ _ _ _ => fr x a, fun i _ => by rw [fr 0 (by omega)], rfl, b4, b5, kfr fr⟩
    | inr p =>
      obtain ⟨k2, v⟩ := p
      have hv := pN_lt hp
      rw [hp] at b2
      obtain ⟨b3, rfl, b4, b5⟩ := b2
      have hT2 := hT1.fr b3
      obtain ⟨σ3, y3, d1, d2⟩ := s23 hT2 b5 (b := 2) (by omega) (by omega)
      rw [if_pos (nno (by omega)), q_2, d1, hb_ci_s]
      dsimp only
      cases hp2 : pN c 2 k2 with
      | inl e =>
        obtain ⟨f, k'⟩ := e
        rw [hp2] at d2
        obtain ⟨d3, rfl, d4, d5⟩ := d2
        have fr := fun x hx => (d3 x hx).trans ((b3 x hx).trans (a2 x hx))
        rw [if_neg (fun z => z rfl)]
        exact ⟨σ3, false, rfl, fun x a _ _ _ _ => fr x a, fun i _ => by rw [fr 0 (by omega)], rfl, d4, d5, kfr fr⟩
      | inr p2 =>
        obtain ⟨k3, h⟩ := p2
        have hh := pN_lt hp2
        rw [hp2] at d2
        obtain ⟨d3, rfl, d4, d5⟩ := d2
        have fr := fun x hx => (d3 x hx).trans ((b3 x hx).trans (a2 x hx))
        have hT3 := hT2.fr d3
        have hck := hT.2.2.2.1 k3
        have e5 : (nI (c k3) = (5 : Int32)) = (c k3 = 5) := q_eq (b := 5) (by omega) (by omega)
        have e6 : (nI (c k3) = (6 : Int32)) = (c k3 = 6) := q_eq (b := 6) (by omega) (by omega)
        have h93 : σ3 0 9 = nI F.1 := by rw [fr 0 (by omega)]; exact h9
        rw [if_pos (nno (by omega)), d5.2.2]
        simp only [e5, e6]
        have fin : c k3 ≠ 21 → ∀ z : Int, ∃ σ' b, hb_run hbSH 16 (95, [.ref 43, .int (nI v), .int (nI h)], [.int (iI z), .int (nI h), .int (nI v), .ref 0], σ3) = some (some (.int (hbb b)), σ') ∧ (∀ x, x ≠ 43 → x ≠ 0 → x ≠ 7 → x ≠ 8 → x ≠ 9 → σ' x = σ x) ∧ (∀ i, i ≠ 9 → σ' 0 i = σ 0 i) ∧ cLn s c m (pE c (k3 + 1) (addF F v h z)) (fun σ' => kF σ' F) (fun F' σ' => σ' 0 9 = nI F'.1 ∧ kF σ' F') σ' b := by
          intro hc21 z
          generalize hσ4 : hb_up (hb_up (hb_up (hb_up σ3 7 F.1 (nI v)) 8 F.1 (nI h)) 9 F.1 (iI z)) 0 9 (nI (F.1 + 1)) = σ4
          have h72 : hb_ev hbSH 72 [.ref 0, .int (nI v), .int (nI h), .int (iI z)] σ3 = some (none, σ4) := by
            rw [v72, e72_0, h93, if_neg (by rw [q_8, q_le (by omega) (by omega)]; omega), q_inT (by omega) (by omega), hb_g_t, hb_g_t, hb_g_t, hb_g_nil, q_cl (by omega), nI_1, hσ4]
          have o4 : ∀ x, x ≠ 0 → x ≠ 7 → x ≠ 8 → x ≠ 9 → σ4 x = σ3 x := fun x w1 w2 w3 w4 => by rw [← hσ4, um_c _ _ _ w1, um_c _ _ _ w4, um_c _ _ _ w3, um_c _ _ _ w2]
          have h09 : ∀ i, i ≠ 9 → σ4 0 i = σ3 0 i := fun i hi => by rw [← hσ4, um_i _ _ _ hi, um_c _ _ _ (by omega), um_c _ _ _ (by omega), um_c _ _ _ (by omega)]
          have h7 : ∀ i, σ4 7 i = if i = F.1 then nI v else σ 7 i := fun i => by rw [← hσ4, um_c _ _ _ (by omega), um_c _ _ _ (by omega), um_c _ _ _ (by omega), um_at, fr 7 (by omega)]
          have h8' : ∀ i, σ4 8 i = if i = F.1 then nI h else σ 8 i := fun i => by rw [← hσ4, um_c _ _ _ (by omega), um_c _ _ _ (by omega), um_at, um_c _ _ _ (by omega), fr 8 (by omega)]
          have h9' : ∀ i, σ4 9 i = if i = F.1 then iI z else σ 9 i := fun i => by rw [← hσ4, um_c _ _ _ (by omega), um_at, um_c _ _ _ (by omega), um_c _ _ _ (by omega), fr 9 (by omega)]
          have hT4 : tkI s c m σ4 := by
            obtain ⟨t1, t2, t3, t4, t5, t6⟩ := hT3
            exact ⟨t1, t2, t3, t4, t5, by rw [o4 41 (by omega) (by omega) (by omega) (by omega), o4 42 (by omega) (by omega) (by omega) (by omega)]; exact t6⟩
          have hA4 : cAt c m k3 σ4 := ⟨d5.1, by rw [o4 43 (by omega) (by omega) (by omega) (by omega)]; exact d5.2.1, by rw [o4 43 (by omega) (by omega) (by omega) (by omega)]; exact d5.2.2⟩
          have hK4 : kF σ4 F := fun i hi => by rw [h7, h8', h9', if_neg (by omega), if_neg (by omega), if_neg (by omega)]; exact hK i hi
          have hK4' : kF σ4 (addF F v h z) := fun i hi => by
            have hi : i < F.1 + 1 := hi
            rw [h7, h8', h9']
            show (if i = F.1 then nI v else σ 7 i) = nI (if i = F.1 then v else F.2.1 i) ∧ (if i = F.1 then nI h else σ 8 i) = nI (if i = F.1 then h else F.2.2.1 i) ∧ (if i = F.1 then iI z else σ 9 i) = iI (if i = F.1 then z else F.2.2.2 i)
            by_cases w : i = F.1
            · rw [if_pos w, if_pos w, if_pos w, if_pos w, if_pos w, if_pos w]; exact ⟨rfl, rfl, rfl⟩
            · simp only [if_neg w]; exact hK i (by omega)
          obtain ⟨σ5, f1, f2, f3⟩ := s26 hT4 hA4 hc21
          obtain ⟨σ6, b, g1, g2, g3⟩ := pE_ln (K0 := fun σ' => kF σ' F) (K1 := fun F' σ' => σ' 0 9 = nI F'.1 ∧ kF σ' F') (hT4.fr f2) f3 (addF F v h z) (fun σ' hf => by unfold kF; rw [hf 7 (by omega), hf 8 (by omega), hf 9 (by omega), f2 7 (by omega), f2 8 (by omega), f2 9 (by omega)]; exact hK4) (fun σ' hf => ⟨by rw [hf 0 (by omega), f2 0 (by omega), ← hσ4, um_s]; rfl, by unfold kF; rw [hf 7 (by omega), hf 8 (by omega), hf 9 (by omega), f2 7 (by omega), f2 8 (by omega), f2 9 (by omega)]; exact hK4'⟩)
          refine ⟨σ6, b, ?_, fun x w0 w1 w2 w3 w4 => by rw [g2 x w0, f2 x w0, o4 x w1 w2 w3 w4]; exact fr x w0, fun i hi => by rw [g2 0 (by omega), f2 0 (by omega), h09 i hi, fr 0 (by omega)], g3⟩
          rw [e16_95, h72, hb_cv_s, f1, hb_cv_s, g1, hb_ci_s, hbb_01, hb_g_t, hb_g_nil]
        by_cases h5 : c k3 = 5
        · rw [if_pos h5, e16_76, d5.2.2]
          simp only [e5]
          rw [if_neg (fun z => z h5), if_pos h5]
          exact fin (by omega) 1
        · rw [if_neg h5]
          by_cases h6 : c k3 = 6
          · rw [if_pos h6, e16_76, d5.2.2]
            simp only [e5]
            rw [if_pos h5, if_neg h5, if_pos h6]
            exact fin (by omega) (-1)
          · obtain ⟨σ', r1, r2, r3, r4⟩ := s25 hT3 d5 1
            rw [show nI 1 = (1 : Int32) from rfl] at r1
            rw [if_neg h6, r1, hb_ci_s, if_neg h5, if_neg h6]
            have fr2 := fun x hx => (r2 x hx).trans (fr x hx)
            exact ⟨σ', false, rfl, fun x a _ _ _ _ => fr2 x a, fun i _ => by rw [fr2 0 (by omega)], rfl, r3, r4, kfr fr2⟩
/-- readConds, from the i-th cond on -/
theorem s17_loop {q : Nat} (hq : q = 1 ∨ q = 4) {L0 : hbL} (hL4 : L0.1 < 4) (hsz : ∀ x, x < L0.1 → L0.2.1 x ≤ 3) : ∀ (f i k : Nat) (L : hbL) (σ : hbM) (v3 : Value), i + f = 3 → L.1 = L0.1 → (∀ x, x < L0.1 → L.2.1 x = L0.2.1 x) → (∀ x, x < 3 * L0.1 → L.2.2 x = L0.2.2 x) → tkI s c m σ → cAt c m k σ → σ q 3 = nI L0.1 → (∀ j, j < i → σ (q + 1) (3 * L0.1 + j) = nI (L.2.2 (3 * L0.1 + j))) → kL σ L0 q →
    ∃ σ' b, hb_run hbSH 17 (20, [.ref 43, .ref q, .int (nI i), v3], [], σ) = some (some (.int (hbb b)), σ') ∧ (∀ x, x ≠ 43 → x ≠ q → x ≠ q + 1 → x ≠ q + 2 → σ' x = σ x) ∧ (∀ j, j ≠ 3 → σ' q j = σ q j) ∧ cLn s c m (pCd c f i k L) (fun σ' => kL σ' L0 q) (fun L' σ' => σ' q 3 = nI L'.1 ∧ kL σ' L' q) σ' b := by
  have f43 : q ≠ 43 ∧ q + 1 ≠ 43 ∧ q + 2 ≠ 43 ∧ (41 : Nat) ≠ q ∧ (41 : Nat) ≠ q + 1 ∧ (41 : Nat) ≠ q + 2 ∧ (42 : Nat) ≠ q ∧ (42 : Nat) ≠ q + 1 ∧ (42 : Nat) ≠ q + 2 ∧ (43 : Nat) ≠ q ∧ (43 : Nat) ≠ q + 1 ∧ (43 : Nat) ≠ q + 2 := by rcases hq with z | z <;> rw [z] <;> decide
  obtain ⟨g1, g2, g3, g4, g5, g6, g7, g8, g9, g10, g11, g12⟩ := f43
  have kfr : ∀ {L : hbL} {σ σ1 : hbM}, kL σ L q → (∀ x, x ≠ 43 → σ1 x = σ x) → kL σ1 L q := fun hK h => by unfold kL; rw [h (q + 2) g3, h (q + 1) g2]; exact hK
  intro f
  induction f with
  | zero =>
    intro i k L σ v3 hi hLL ha1 ha2 hT hA hc3 hcur hK0
    obtain rfl : i = 3 := by omega
    rw [ke17_20 hq, if_pos (by decide), s21 hT hA, hb_ci_s]
    simp only [pCd]
    by_cases h1 : c k < 7 ∨ 10 < c k
    · obtain ⟨σ', r1, r2, r3, r4⟩ := s25 hT hA 1
      rw [show nI 1 = (1 : Int32) from rfl] at r1
      rw [if_pos h1, if_neg (fun z => z rfl), ke17_92 hq, r1, hb_ci_s, if_neg (show ¬ (7 ≤ c k ∧ c k ≤ 10) by omega)]
      exact ⟨σ', false, rfl, fun x a _ _ _ => r2 x a, fun j _ => by rw [r2 q g1], rfl, r3, r4, kfr hK0 r2⟩
    · obtain ⟨σ', r1, r2, r3, r4⟩ := s25 hT hA 3
      rw [show nI 3 = (3 : Int32) from rfl] at r1
      rw [if_neg h1, if_pos (show ¬ hbo (some (c k - 7)) = (-1000000 : Int32) from nno (by have := hT.2.2.2.1 k; omega)), ke17_92 hq, r1, hb_ci_s, if_pos (show (7 ≤ c k ∧ c k ≤ 10) by omega)]
      exact ⟨σ', false, rfl, fun x a _ _ _ => r2 x a, fun j _ => by rw [r2 q g1], rfl, r3, r4, kfr hK0 r2⟩
  | succ f ih =>
    intro i k L σ v3 hi hLL ha1 ha2 hT hA hc3 hcur hK0
    obtain ⟨σ1, y, a1, a2, a3⟩ := s20 hT hA
    rw [ke17_20 hq, if_neg (by rw [q_3, q_le (by omega) (by omega)]; omega), a1, hb_ci_s]
    simp only [pCd]
    cases hp : pC c k with
    | inl e =>
      obtain ⟨fn, k'⟩ := e
      rw [hp] at a2
      obtain ⟨b3, rfl, b4, b5⟩ := a2
      rw [if_neg (fun z => z rfl)]
      exact ⟨σ1, false, rfl, fun x a _ _ _ => b3 x a, fun j _ => by rw [b3 q g1], rfl, b4, b5, kfr hK0 b3⟩
    | inr p =>
      obtain ⟨k2, v⟩ := p
      have hv := a3 k2 v hp
      rw [hp] at a2
      obtain ⟨b3, rfl, b4, b5⟩ := a2
      have hT1 := hT.fr b3
      have hq3 : σ1 q 3 = nI L0.1 := by rw [b3 q g1]; exact hc3
      generalize hσ2 : hb_up (hb_up σ1 (q + 1) (3 * L0.1 + i) (nI v)) (q + 2) L0.1 (nI (i + 1)) = σ2
      have h12 : hb_ev hbSH 12 [.ref q, .int (nI i), .int (nI v)] σ1 = some (none, σ2) := by
        rw [kv12 hq, ke12_0 hq, hq3, if_neg (by rw [q_4, q_le (by omega) (by omega)]; omega), s110n _ _ 3 q_3 (by omega), hb_ci_s, q_inT (by omega) (show i < 3 by omega), hbb_t, if_neg (by decide), hq3, q_3, q_mul, q_add, Nat.mul_comm L0.1 3, q_inT (by omega) (by omega), q_inT (by omega) (by omega), hb_g_t, hb_g_t, hb_g_nil, q_cl (by omega), q_cl (by omega), nI_1, hσ2]
      have o2 : ∀ x, x ≠ q + 1 → x ≠ q + 2 → σ2 x = σ1 x := fun x w1 w2 => by rw [← hσ2, um_c _ _ _ w2, um_c _ _ _ w1]
      have hs2 : ∀ j, σ2 (q + 2) j = if j = L0.1 then nI (i + 1) else σ (q + 2) j := fun j => by rw [← hσ2, um_at, um_c _ _ _ (by omega), b3 (q + 2) g3]
      have hcd : ∀ j, σ2 (q + 1) j = if j = 3 * L0.1 + i then nI v else σ (q + 1) j := fun j => by rw [← hσ2, um_c _ _ _ (by omega), um_at, b3 (q + 1) g2]
      have hT2 : tkI s c m σ2 := by
        obtain ⟨t1, t2, t3, t4, t5, t6⟩ := hT1
        exact ⟨t1, t2, t3, t4, t5, by rw [o2 41 g5 g6, o2 42 g8 g9]; exact t6⟩
      have hA2 : cAt c m k2 σ2 := ⟨b5.1, by rw [o2 43 g11 g12]; exact b5.2.1, by rw [o2 43 g11 g12]; exact b5.2.2⟩
      have hq32 : ∀ j, σ2 q j = σ q j := fun j => by rw [o2 q (by omega) (by omega), b3 q g1]
      have hK2 : kL σ2 L0 q := fun x hx => by
        obtain ⟨e1, e2⟩ := hK0 x hx
        have := hsz x hx
        rw [hs2, if_neg (by omega)]
        exact ⟨e1, fun j hj => by rw [hcd, if_neg (by omega)]; exact e2 j hj⟩
      have hput : ∀ y, (putC L i v).2.2 y = if y = 3 * L0.1 + i then v else L.2.2 y := fun y => by
        show (if y = 3 * L.1 + i then v else L.2.2 y) = _
        rw [hLL]
      have hcur2 : ∀ j, j < i + 1 → σ2 (q + 1) (3 * L0.1 + j) = nI ((putC L i v).2.2 (3 * L0.1 + j)) := fun j hj => by
        rw [hcd, hput]
        by_cases z : j = i
        · rw [if_pos (by omega), if_pos (by omega)]
        · rw [if_neg (by omega), if_neg (by omega)]; exact hcur j (by omega)
      have hag1 : ∀ x, x < L0.1 → (putC L i v).2.1 x = L0.2.1 x := fun x hx => by
        show (if x = L.1 then i + 1 else L.2.1 x) = _
        rw [if_neg (by omega)]; exact ha1 x hx
      have hag2 : ∀ x, x < 3 * L0.1 → (putC L i v).2.2 x = L0.2.2 x := fun x hx => by
        rw [hput, if_neg (by omega)]; exact ha2 x hx
      have hck := hT.2.2.2.1 k2
      have e4 : (nI (c k2) = (4 : Int32)) = (c k2 = 4) := q_eq (b := 4) (by omega) (by omega)
      rw [if_pos (nno (by omega)), h12, hb_cv_s, hA2.2.2]
      simp only [e4]
      by_cases hand : c k2 = 4
      · obtain ⟨σ3, d1, d2, d3⟩ := s26 hT2 hA2 (by omega)
        obtain ⟨σ', b, r1, r2, r3, r4⟩ := ih (i + 1) (k2 + 1) (putC L i v) σ3 (.int (nI v)) (by omega) hLL hag1 hag2 (hT2.fr d2) d3 (by rw [d2 q g1, hq32]; exact hc3) (fun j hj => by rw [d2 (q + 1) g2]; exact hcur2 j hj) (kfr hK2 d2)
        refine ⟨σ', b, ?_, fun x w0 w1 w2 w3 => by rw [r2 x w0 w1 w2 w3, d2 x w0, o2 x w2 w3, b3 x w0], fun j hj => by rw [r3 j hj, d2 q g1, hq32], ?_⟩
        · rw [if_pos hand, d1, hb_cv_s, nI_1]; exact r1
        · rw [if_pos hand]; exact r4
      · generalize hσ3 : hb_up σ2 q 3 (nI (L0.1 + 1)) = σ3
        have o3 : ∀ x, x ≠ q → σ3 x = σ2 x := fun x w => by rw [← hσ3, um_c _ _ _ w]
        have hT3 : tkI s c m σ3 := by
          obtain ⟨t1, t2, t3, t4, t5, t6⟩ := hT2
          exact ⟨t1, t2, t3, t4, t5, by rw [o3 41 g4, o3 42 g7]; exact t6⟩
        have hA3 : cAt c m k2 σ3 := ⟨hA2.1, by rw [o3 43 g10]; exact hA2.2.1, by rw [o3 43 g10]; exact hA2.2.2⟩
        have hK3 : kL σ3 L0 q := by unfold kL; rw [o3 (q + 2) (by omega), o3 (q + 1) (by omega)]; exact hK2
        have hK3' : kL σ3 ((putC L i v).1 + 1, (putC L i v).2.1, (putC L i v).2.2) q := fun x hx => by
          have hx : x < L.1 + 1 := hx
          rw [o3 (q + 2) (by omega), o3 (q + 1) (by omega)]
          show σ2 (q + 2) x = nI ((putC L i v).2.1 x) ∧ ∀ j, j < (putC L i v).2.1 x → σ2 (q + 1) (3 * x + j) = nI ((putC L i v).2.2 (3 * x + j))
          by_cases w : x = L0.1
          · have hsz2 : (putC L i v).2.1 x = i + 1 := by show (if x = L.1 then i + 1 else L.2.1 x) = i + 1; rw [if_pos (by omega)]
            rw [hsz2, w, hs2, if_pos rfl]
            exact ⟨rfl, fun j hj => hcur2 j hj⟩
          · have hxl : x < L0.1 := by omega
            obtain ⟨e1, e2⟩ := hK2 x hxl
            have := hsz x hxl
            rw [hag1 x hxl]
            refine ⟨e1, fun j hj => ?_⟩
            rw [hag2 _ (by omega)]; exact e2 j hj
        obtain ⟨σ4, b, g1', g2', g3'⟩ := pE_ln (K0 := fun σ' => kL σ' L0 q) (K1 := fun L' σ' => σ' q 3 = nI L'.1 ∧ kL σ' L' q) hT3 hA3 ((putC L i v).1 + 1, (putC L i v).2.1, (putC L i v).2.2) (fun σ' hf => kfr hK3 hf) (fun σ' hf => ⟨by rw [hf q g1, ← hσ3, um_s]; show nI (L0.1 + 1) = nI (L.1 + 1); rw [hLL], kfr hK3' hf⟩)
        refine ⟨σ4, b, ?_, fun x w0 w1 w2 w3 => by rw [g2' x w0, o3 x w1, o2 x w2 w3, b3 x w0], fun j hj => by rw [g2' q g1, ← hσ3, um_i _ _ _ hj, hq32], ?_⟩
        · rw [if_neg hand, hq32, hc3, nI_1, hσ3, g1', hb_ci_s, hbb_01, hb_g_t, hb_g_nil]
        · rw [if_neg hand]; exact g3'
/-- readConds -/
theorem s17 {q : Nat} (hq : q = 1 ∨ q = 4) {L : hbL} (hok : wLok L) (hT : tkI s c m σ) (hA : cAt c m k σ) (hk : c k ≠ 21) (h3 : σ q 3 = nI L.1) (hK : kL σ L q) :
    ∃ σ' b, hb_ev hbSH 17 [.ref 43, .ref q] σ = some (some (.int (hbb b)), σ') ∧ (∀ x, x ≠ 43 → x ≠ q → x ≠ q + 1 → x ≠ q + 2 → σ' x = σ x) ∧ (∀ j, j ≠ 3 → σ' q j = σ q j) ∧ cLn s c m (pLn c k L) (fun σ' => kL σ' L q) (fun L' σ' => σ' q 3 = nI L'.1 ∧ kL σ' L' q) σ' b := by
  have g1 : q ≠ 43 := by rcases hq with z | z <;> omega
  have g2 : q + 1 ≠ 43 := by rcases hq with z | z <;> omega
  have g3 : q + 2 ≠ 43 := by rcases hq with z | z <;> omega
  have h4 := hok.1
  rw [kv17 hq, ke17_0 hq, h3]
  unfold pLn
  by_cases h : 4 ≤ L.1
  · obtain ⟨σ', r1, r2, r3, r4⟩ := s25 hT hA 3
    rw [show nI 3 = (3 : Int32) from rfl] at r1
    rw [if_neg (by rw [q_4, q_lt (by omega) (by omega)]; omega), r1, hb_ci_s, if_pos h]
    exact ⟨σ', false, rfl, fun x a _ _ _ => r2 x a, fun j _ => by rw [r2 q g1], rfl, r3, r4, by show kL σ' L q; unfold kL; rw [r2 (q + 2) g3, r2 (q + 1) g2]; exact hK⟩
  · obtain ⟨σ1, a1, a2, a3⟩ := s26 hT hA hk
    obtain ⟨σ', b, r1, r2, r3, r4⟩ := s17_loop hq (L0 := L) (by omega) (fun x hx => (hok.2 x hx).1) 3 0 (k + 1) L σ1 .null (by omega) rfl (fun _ _ => rfl) (fun _ _ => rfl) (hT.fr a2) a3 (by rw [a2 q g1]; exact h3) (fun j hj => by omega) (by unfold kL; rw [a2 (q + 2) g3, a2 (q + 1) g2]; exact hK)
    rw [if_pos (by rw [q_4, q_lt (by omega) (by omega)]; omega), a1, hb_cv_s, if_neg h]
    exact ⟨σ', b, r1, fun x w0 w1 w2 w3 => (r2 x w0 w1 w2 w3).trans (a2 x w0), fun j hj => by rw [r3 j hj, a2 q g1], r4⟩
end
