/-! book: a text, line by line -/
section
variable (c : Nat → Nat)
def pL (k : Nat) (D : hbD) : (Nat × Nat) ⊕ (Nat × hbD) :=
  if c k = 0 then (match pFl c k D.1 with
    | .inl e => .inl e
    | .inr (k', F) => .inr (k', (F, D.2)))
  else if c k = 1 then (match pLn c k D.2.1 with
    | .inl e => .inl e
    | .inr (k', L) => .inr (k', (D.1, L, D.2.2)))
  else if c k = 2 then (match pLn c k D.2.2.1 with
    | .inl e => .inl e
    | .inr (k', L) => .inr (k', (D.1, D.2.1, L, D.2.2.2)))
  else if c k = 3 then (match pSt c k D.2.2.2 with
    | .inl e => .inl e
    | .inr (k', S) => .inr (k', (D.1, D.2.1, D.2.2.1, S)))
  else .inl (1, k)
def pA : Nat → Nat → hbD → (Nat × Nat) ⊕ hbD
  | 0, _, D => .inr D
  | f + 1, k, D => if c k = 21 then .inr D else match pL c k D with
    | .inl e => .inl e
    | .inr (k', D') => pA f k' D'
end
def preF (F F' : hbF) : Prop := F.1 ≤ F'.1 ∧ ∀ i, i < F.1 → F'.2.1 i = F.2.1 i ∧ F'.2.2.1 i = F.2.2.1 i ∧ F'.2.2.2 i = F.2.2.2 i
def preL (L L' : hbL) : Prop := L.1 ≤ L'.1 ∧ ∀ i, i < L.1 → L'.2.1 i = L.2.1 i ∧ ∀ j, j < L.2.1 i → L'.2.2 (3 * i + j) = L.2.2 (3 * i + j)
def preS (S S' : hbSt) : Prop := S.1 ≤ S'.1 ∧ ∀ i, i < S.1 → S'.2.1 i = S.2.1 i ∧ S'.2.2.1 i = S.2.2.1 i ∧ S'.2.2.2 i = S.2.2.2 i
def preD (D D' : hbD) : Prop := preF D.1 D'.1 ∧ preL D.2.1 D'.2.1 ∧ preL D.2.2.1 D'.2.2.1 ∧ preS D.2.2.2 D'.2.2.2
theorem preF.rf (F : hbF) : preF F F := ⟨Nat.le_refl _, fun _ _ => ⟨rfl, rfl, rfl⟩⟩
theorem preL.rf (L : hbL) : preL L L := ⟨Nat.le_refl _, fun _ _ => ⟨rfl, fun _ _ => rfl⟩⟩
theorem preS.rf (S : hbSt) : preS S S := ⟨Nat.le_refl _, fun _ _ => ⟨rfl, rfl, rfl⟩⟩
theorem preF.tr {a b d : hbF} (h1 : preF a b) (h2 : preF b d) : preF a d := ⟨Nat.le_trans h1.1 h2.1, fun i hi => by
  obtain ⟨a1, a2, a3⟩ := h1.2 i hi
  obtain ⟨b1, b2, b3⟩ := h2.2 i (Nat.lt_of_lt_of_le hi h1.1)
  exact ⟨b1.trans a1, b2.trans a2, b3.trans a3⟩⟩
theorem preS.tr {a b d : hbSt} (h1 : preS a b) (h2 : preS b d) : preS a d := ⟨Nat.le_trans h1.1 h2.1, fun i hi => by
  obtain ⟨a1, a2, a3⟩ := h1.2 i hi
  obtain ⟨b1, b2, b3⟩ := h2.2 i (Nat.lt_of_lt_of_le hi h1.1)
  exact ⟨b1.trans a1, b2.trans a2, b3.trans a3⟩⟩
theorem preL.tr {a b d : hbL} (h1 : preL a b) (h2 : preL b d) : preL a d := ⟨Nat.le_trans h1.1 h2.1, fun i hi => by
  obtain ⟨a1, a2⟩ := h1.2 i hi
  obtain ⟨b1, b2⟩ := h2.2 i (Nat.lt_of_lt_of_le hi h1.1)
  exact ⟨b1.trans a1, fun j hj => (b2 j (by rw [a1]; exact hj)).trans (a2 j hj)⟩⟩
theorem preD.rf (D : hbD) : preD D D := ⟨preF.rf _, preL.rf _, preL.rf _, preS.rf _⟩
theorem preD.tr {a b d : hbD} (h1 : preD a b) (h2 : preD b d) : preD a d := ⟨h1.1.tr h2.1, h1.2.1.tr h2.2.1, h1.2.2.1.tr h2.2.2.1, h1.2.2.2.tr h2.2.2.2⟩
def wS (S : hbSt) : Prop := S.1 ≤ 16 ∧ ∀ i, i < S.1 → S.2.1 i < 6 ∧ S.2.2.1 i < 16 ∧ (S.2.1 i < 2 → S.2.2.1 i < 4) ∧ S.2.2.2 i < 256
def wD (D : hbD) : Prop := wFok D.1 ∧ wLok D.2.1 ∧ wLok D.2.2.1 ∧ wS D.2.2.2
section
variable {c : Nat → Nat}
theorem pN_k {b k k2 a : Nat} (h : pN c b k = .inr (k2, a)) : k2 = k + 1 := by
  unfold pN at h
  split at h
  · cases h
  · split at h
    · cases h
    · cases h; rfl
theorem pC_ok {k k2 v : Nat} (h : pC c k = .inr (k2, v)) : v < 256 ∧ k < k2 := by
  unfold pC at h
  split at h
  · cases h
  · rename_i hc
    cases hp : pN c (if c k < 9 then 4 else 2) (k + 1) with
    | inl e => rw [hp] at h; cases h
    | inr p =>
      obtain ⟨k3, a⟩ := p
      rw [hp] at h
      dsimp only at h
      have h1 := pN_lt hp
      have h2 := pN_k hp
      by_cases h9 : c k < 9
      · rw [if_pos h9] at h h1
        cases h
        omega
      · rw [if_neg h9] at h h1
        cases hp2 : pN c 8 k3 with
        | inl e => rw [hp2] at h; cases h
        | inr p2 =>
          obtain ⟨k4, w⟩ := p2
          rw [hp2] at h
          have h3 := pN_lt hp2
          have h4 := pN_k hp2
          cases h
          omega
theorem pE_k {α : Type} {k k2 : Nat} {D D' : α} (h : pE c k D = .inr (k2, D')) : k2 = k + 1 ∧ D' = D := by
  unfold pE at h
  split at h
  · cases h; exact ⟨rfl, rfl⟩
  · cases h
theorem pFl_ok {k k' : Nat} {F F' : hbF} (hw : wFok F) (h : pFl c k F = .inr (k', F')) : wFok F' ∧ k < k' ∧ preF F F' := by
  unfold pFl at h
  split at h
  · cases h
  · rename_i h8
    cases hp : pN c 4 (k + 1) with
    | inl e => rw [hp] at h; cases h
    | inr p =>
      obtain ⟨k2, v⟩ := p
      rw [hp] at h
      dsimp only at h
      cases hp2 : pN c 2 k2 with
      | inl e => rw [hp2] at h; cases h
      | inr p2 =>
        obtain ⟨k3, g⟩ := p2
        rw [hp2] at h
        dsimp only at h
        have a1 := pN_lt hp
        have a2 := pN_k hp
        have b1 := pN_lt hp2
        have b2 := pN_k hp2
        have key : ∀ z : Int, (z = 1 ∨ z = -1) → F' = addF F v g z → wFok F' ∧ preF F F' := fun z hz e => by
          rw [e]
          refine ⟨⟨by show F.1 + 1 ≤ 8; omega, fun i hi => ?_⟩, ⟨by show F.1 ≤ F.1 + 1; omega, fun i hi => ?_⟩⟩
          · show (if i = F.1 then v else F.2.1 i) < 4 ∧ (if i = F.1 then g else F.2.2.1 i) < 2 ∧ ((if i = F.1 then z else F.2.2.2 i) = 1 ∨ (if i = F.1 then z else F.2.2.2 i) = -1)
            have hi : i < F.1 + 1 := hi
            by_cases w : i = F.1
            · rw [if_pos w, if_pos w, if_pos w]; exact ⟨a1, b1, hz⟩
            · rw [if_neg w, if_neg w, if_neg w]; exact hw.2 i (by omega)
          · show (if i = F.1 then v else F.2.1 i) = F.2.1 i ∧ (if i = F.1 then g else F.2.2.1 i) = F.2.2.1 i ∧ (if i = F.1 then z else F.2.2.2 i) = F.2.2.2 i
            rw [if_neg (by omega), if_neg (by omega), if_neg (by omega)]; exact ⟨rfl, rfl, rfl⟩
        split at h
        · obtain ⟨e1, e2⟩ := pE_k h
          obtain ⟨x1, x2⟩ := key 1 (Or.inl rfl) e2
          exact ⟨x1, by omega, x2⟩
        · split at h
          · obtain ⟨e1, e2⟩ := pE_k h
            obtain ⟨x1, x2⟩ := key (-1) (Or.inr rfl) e2
            exact ⟨x1, by omega, x2⟩
          · cases h
theorem pCd_ok {L0 : hbL} (hw : wLok L0) (h4 : L0.1 < 4) : ∀ (f i k k' : Nat) (L L' : hbL), i + f = 3 → L.1 = L0.1 → (∀ x, x < L0.1 → L.2.1 x = L0.2.1 x) → (∀ x, x < 3 * L0.1 → L.2.2 x = L0.2.2 x) → (∀ j, j < i → L.2.2 (3 * L0.1 + j) < 256) → pCd c f i k L = .inr (k', L') → wLok L' ∧ k < k' ∧ preL L0 L' := by
  intro f
  induction f with
  | zero => intro i k k' L L' _ _ _ _ _ h; simp only [pCd] at h; cases h
  | succ f ih =>
    intro i k k' L L' hi hl ha1 ha2 hcu h
    simp only [pCd] at h
    cases hp : pC c k with
    | inl e => rw [hp] at h; cases h
    | inr p =>
      obtain ⟨k2, v⟩ := p
      obtain ⟨v1, v2⟩ := pC_ok hp
      rw [hp] at h
      dsimp only at h
      have hput : ∀ y, (putC L i v).2.2 y = if y = 3 * L0.1 + i then v else L.2.2 y := fun y => by
        show (if y = 3 * L.1 + i then v else L.2.2 y) = _
        rw [hl]
      have hag1 : ∀ x, x < L0.1 → (putC L i v).2.1 x = L0.2.1 x := fun x hx => by
        show (if x = L.1 then i + 1 else L.2.1 x) = _
        rw [if_neg (by omega)]; exact ha1 x hx
      have hag2 : ∀ x, x < 3 * L0.1 → (putC L i v).2.2 x = L0.2.2 x := fun x hx => by
        rw [hput, if_neg (by omega)]; exact ha2 x hx
      have hcu2 : ∀ j, j < i + 1 → (putC L i v).2.2 (3 * L0.1 + j) < 256 := fun j hj => by
        rw [hput]
        by_cases z : j = i
        · rw [if_pos (by omega)]; exact v1
        · rw [if_neg (by omega)]; exact hcu j (by omega)
      split at h
      · obtain ⟨x1, x2, x3⟩ := ih (i + 1) (k2 + 1) k' (putC L i v) L' (by omega) hl hag1 hag2 hcu2 h
        exact ⟨x1, by omega, x3⟩
      · obtain ⟨e1, e2⟩ := pE_k h
        rw [e2]
        refine ⟨⟨by show L.1 + 1 ≤ 4; omega, fun x hx => ?_⟩, by omega, ⟨by show L0.1 ≤ L.1 + 1; omega, fun x hx => ?_⟩⟩
        · have hx : x < L.1 + 1 := hx
          show (putC L i v).2.1 x ≤ 3 ∧ ∀ j, j < (putC L i v).2.1 x → (putC L i v).2.2 (3 * x + j) < 256
          by_cases w : x = L0.1
          · have hs : (putC L i v).2.1 x = i + 1 := by show (if x = L.1 then i + 1 else L.2.1 x) = i + 1; rw [if_pos (by omega)]
            rw [hs]
            exact ⟨by omega, fun j hj => by rw [w]; exact hcu2 j hj⟩
          · obtain ⟨y1, y2⟩ := hw.2 x (by omega)
            rw [hag1 x (by omega)]
            exact ⟨y1, fun j hj => by rw [hag2 _ (by omega)]; exact y2 j hj⟩
        · obtain ⟨y1, y2⟩ := hw.2 x hx
          show (putC L i v).2.1 x = L0.2.1 x ∧ ∀ j, j < L0.2.1 x → (putC L i v).2.2 (3 * x + j) = L0.2.2 (3 * x + j)
          exact ⟨hag1 x hx, fun j hj => hag2 _ (by omega)⟩
theorem pLn_ok {k k' : Nat} {L L' : hbL} (hw : wLok L) (h : pLn c k L = .inr (k', L')) : wLok L' ∧ k < k' ∧ preL L L' := by
  unfold pLn at h
  split at h
  · cases h
  · obtain ⟨a, b, d⟩ := pCd_ok hw (by omega) 3 0 (k + 1) k' L L' (by omega) rfl (fun _ _ => rfl) (fun _ _ => rfl) (fun j hj => by omega) h
    exact ⟨a, by omega, d⟩
theorem pSt_ok {k k' : Nat} {S S' : hbSt} (hw : wS S) (h : pSt c k S = .inr (k', S')) : wS S' ∧ k < k' ∧ preS S S' := by
  unfold pSt at h
  split at h
  · cases h
  · cases ha : aOf (c (k + 1)) with
    | none => rw [ha] at h; cases h
    | some a =>
      rw [ha] at h
      dsimp only at h
      have ha6 := (aOf_lt ha).1
      cases hp : pCo c a (k + 2) with
      | inl e => rw [hp] at h; cases h
      | inr p =>
        obtain ⟨k2, v⟩ := p
        rw [hp] at h
        dsimp only at h
        have hv : v < 256 ∧ k + 2 ≤ k2 := by
          unfold pCo at hp
          split at hp
          · have := pC_ok hp; omega
          · cases hp; omega
        cases hp2 : pTg c a k2 with
        | inl e => rw [hp2] at h; cases h
        | inr p2 =>
          obtain ⟨k3, t⟩ := p2
          rw [hp2] at h
          dsimp only at h
          have ht : t < 16 ∧ (a < 2 → t < 4) ∧ k2 ≤ k3 := by
            unfold pTg at hp2
            split at hp2
            · have h1 := pN_lt hp2; have h2 := pN_k hp2; omega
            · split at hp2
              · have h1 := pN_lt hp2; have h2 := pN_k hp2; omega
              · cases hp2; omega
          obtain ⟨e1, e2⟩ := pE_k h
          rw [e2]
          refine ⟨⟨by show S.1 + 1 ≤ 16; omega, fun i hi => ?_⟩, by omega, ⟨by show S.1 ≤ S.1 + 1; omega, fun i hi => ?_⟩⟩
          · have hi : i < S.1 + 1 := hi
            show (if i = S.1 then a else S.2.1 i) < 6 ∧ (if i = S.1 then t else S.2.2.1 i) < 16 ∧ ((if i = S.1 then a else S.2.1 i) < 2 → (if i = S.1 then t else S.2.2.1 i) < 4) ∧ (if i = S.1 then v else S.2.2.2 i) < 256
            by_cases w : i = S.1
            · rw [if_pos w, if_pos w, if_pos w]; exact ⟨ha6, ht.1, ht.2.1, hv.1⟩
            · rw [if_neg w, if_neg w, if_neg w]; exact hw.2 i (by omega)
          · show (if i = S.1 then a else S.2.1 i) = S.2.1 i ∧ (if i = S.1 then t else S.2.2.1 i) = S.2.2.1 i ∧ (if i = S.1 then v else S.2.2.2 i) = S.2.2.2 i
            rw [if_neg (by omega), if_neg (by omega), if_neg (by omega)]; exact ⟨rfl, rfl, rfl⟩
theorem pL_ok {k k' : Nat} {D D' : hbD} (hw : wD D) (h : pL c k D = .inr (k', D')) : wD D' ∧ k < k' ∧ preD D D' := by
  obtain ⟨w1, w2, w3, w4⟩ := hw
  unfold pL at h
  split at h
  · cases hp : pFl c k D.1 with
    | inl e => rw [hp] at h; cases h
    | inr p =>
      obtain ⟨k2, F⟩ := p
      rw [hp] at h
      cases h
      obtain ⟨a, b, d⟩ := pFl_ok w1 hp
      exact ⟨⟨a, w2, w3, w4⟩, b, d, preL.rf _, preL.rf _, preS.rf _⟩
  · split at h
    · cases hp : pLn c k D.2.1 with
      | inl e => rw [hp] at h; cases h
      | inr p =>
        obtain ⟨k2, L⟩ := p
        rw [hp] at h
        cases h
        obtain ⟨a, b, d⟩ := pLn_ok w2 hp
        exact ⟨⟨w1, a, w3, w4⟩, b, preF.rf _, d, preL.rf _, preS.rf _⟩
    · split at h
      · cases hp : pLn c k D.2.2.1 with
        | inl e => rw [hp] at h; cases h
        | inr p =>
          obtain ⟨k2, L⟩ := p
          rw [hp] at h
          cases h
          obtain ⟨a, b, d⟩ := pLn_ok w3 hp
          exact ⟨⟨w1, w2, a, w4⟩, b, preF.rf _, preL.rf _, d, preS.rf _⟩
      · split at h
        · cases hp : pSt c k D.2.2.2 with
          | inl e => rw [hp] at h; cases h
          | inr p =>
            obtain ⟨k2, S⟩ := p
            rw [hp] at h
            cases h
            obtain ⟨a, b, d⟩ := pSt_ok w4 hp
            exact ⟨⟨w1, w2, w3, a⟩, b, preF.rf _, preL.rf _, preL.rf _, d⟩
        · cases h
end
/-! the class: a line, a text -/
def kD (σ : hbM) (D : hbD) : Prop := kF σ D.1 ∧ kL σ D.2.1 1 ∧ kL σ D.2.2.1 4 ∧ kS σ D.2.2.2
def nD (σ : hbM) (D : hbD) : Prop := σ 0 9 = nI D.1.1 ∧ σ 1 3 = nI D.2.1.1 ∧ σ 4 3 = nI D.2.2.1.1 ∧ σ 31 5 = nI D.2.2.2.1
def dFr (σ σ' : hbM) : Prop := (∀ x, 10 ≤ x → x ≠ 31 → x ≠ 32 → x ≠ 33 → x ≠ 34 → x ≠ 43 → σ' x = σ x) ∧ (∀ i, i ≠ 9 → σ' 0 i = σ 0 i) ∧ (∀ i, i ≠ 3 → σ' 1 i = σ 1 i) ∧ (∀ i, i ≠ 3 → σ' 4 i = σ 4 i) ∧ ∀ i, i ≠ 5 → σ' 31 i = σ 31 i
theorem dFr.rf (σ : hbM) : dFr σ σ := ⟨fun _ _ _ _ _ _ _ => rfl, fun _ _ => rfl, fun _ _ => rfl, fun _ _ => rfl, fun _ _ => rfl⟩
theorem dFr.tr {a b d : hbM} (h1 : dFr a b) (h2 : dFr b d) : dFr a d := ⟨fun x p q r s t u => (h2.1 x p q r s t u).trans (h1.1 x p q r s t u), fun i h => (h2.2.1 i h).trans (h1.2.1 i h), fun i h => (h2.2.2.1 i h).trans (h1.2.2.1 i h), fun i h => (h2.2.2.2.1 i h).trans (h1.2.2.2.1 i h), fun i h => (h2.2.2.2.2 i h).trans (h1.2.2.2.2 i h)⟩
theorem kD_pre {σ : hbM} {D D' : hbD} (hp : preD D D') (h : kD σ D') : kD σ D := by
  obtain ⟨p1, p2, p3, p4⟩ := hp
  obtain ⟨h1, h2, h3, h4⟩ := h
  refine ⟨fun i hi => ?_, fun i hi => ?_, fun i hi => ?_, fun i hi => ?_⟩
  · obtain ⟨a, b, d⟩ := p1.2 i hi
    rw [← a, ← b, ← d]; exact h1 i (Nat.lt_of_lt_of_le hi p1.1)
  · obtain ⟨a, b⟩ := p2.2 i hi
    obtain ⟨e, f⟩ := h2 i (Nat.lt_of_lt_of_le hi p2.1)
    exact ⟨by rw [← a]; exact e, fun j hj => by rw [← b j hj]; exact f j (by rw [a]; exact hj)⟩
  · obtain ⟨a, b⟩ := p3.2 i hi
    obtain ⟨e, f⟩ := h3 i (Nat.lt_of_lt_of_le hi p3.1)
    exact ⟨by rw [← a]; exact e, fun j hj => by rw [← b j hj]; exact f j (by rw [a]; exact hj)⟩
  · obtain ⟨a, b, d⟩ := p4.2 i hi
    rw [← a, ← b, ← d]; exact h4 i (Nat.lt_of_lt_of_le hi p4.1)
section
variable {s c : Nat → Nat} {m k : Nat} {σ : hbM}
/-- readLine -/
theorem s15 {D : hbD} (hw : wD D) (hT : tkI s c m σ) (hA : cAt c m k σ) (hk : c k ≠ 21) (hN : nD σ D) (hK : kD σ D) :
    ∃ σ' b, hb_ev hbSH 15 [.ref 43] σ = some (some (.int (hbb b)), σ') ∧ dFr σ σ' ∧ cLn s c m (pL c k D) (fun σ' => kD σ' D) (fun D' σ' => nD σ' D' ∧ kD σ' D') σ' b := by
  obtain ⟨w1, w2, w3, w4⟩ := hw
  obtain ⟨n1, n2, n3, n4⟩ := hN
  obtain ⟨k1, k2, k3, k4⟩ := hK
  have hc := hT.2.2.2.1 k
  rw [v15, e15_0, hA.2.2]
  have e : ∀ d : Nat, d < 100 → ((nI (c k) = nI d) = (c k = d)) := fun d hd => q_eq (by omega) (by omega)
  have e0 : (nI (c k) = (0 : Int32)) = (c k = 0) := e 0 (by omega)
  have e1 : (nI (c k) = (1 : Int32)) = (c k = 1) := e 1 (by omega)
  have e2 : (nI (c k) = (2 : Int32)) = (c k = 2) := e 2 (by omega)
  have e3 : (nI (c k) = (3 : Int32)) = (c k = 3) := e 3 (by omega)
  simp only [e0, e1, e2, e3]
  unfold pL
  by_cases h0 : c k = 0
  · obtain ⟨σ', b, a1, a2, a3, a4⟩ := s16 w1.1 hT hA hk n1 k1
    rw [if_pos h0, if_pos h0, a1, hb_ci_s, hbb_01, hb_g_t, hb_g_nil]
    have fr : dFr σ σ' := ⟨fun x p _ _ _ _ u => a2 x u (by omega) (by omega) (by omega) (by omega), a3, fun i _ => by rw [a2 1 (by omega) (by omega) (by omega) (by omega) (by omega)], fun i _ => by rw [a2 4 (by omega) (by omega) (by omega) (by omega) (by omega)], fun i _ => by rw [a2 31 (by omega) (by omega) (by omega) (by omega) (by omega)]⟩
    have o : ∀ x, x ≠ 43 → x ≠ 0 → x ≠ 7 → x ≠ 8 → x ≠ 9 → σ' x = σ x := a2
    have kB : kL σ' D.2.1 1 := by unfold kL; rw [o (1 + 2) (by omega) (by omega) (by omega) (by omega) (by omega), o (1 + 1) (by omega) (by omega) (by omega) (by omega) (by omega)]; exact k2
    have kG : kL σ' D.2.2.1 4 := by unfold kL; rw [o (4 + 2) (by omega) (by omega) (by omega) (by omega) (by omega), o (4 + 1) (by omega) (by omega) (by omega) (by omega) (by omega)]; exact k3
    have kSS : kS σ' D.2.2.2 := by unfold kS; rw [o 32 (by omega) (by omega) (by omega) (by omega) (by omega), o 33 (by omega) (by omega) (by omega) (by omega) (by omega), o 34 (by omega) (by omega) (by omega) (by omega) (by omega)]; exact k4
    refine ⟨σ', b, rfl, fr, ?_⟩
    cases hp : pFl c k D.1 with
    | inl e => rw [hp] at a4; obtain ⟨x1, x2, x3, x4⟩ := a4; exact ⟨x1, x2, x3, x4, kB, kG, kSS⟩
    | inr p => rw [hp] at a4; obtain ⟨x1, x2, x3, x4⟩ := a4; exact ⟨x1, x2, ⟨x3, by rw [o 1 (by omega) (by omega) (by omega) (by omega) (by omega)]; exact n2, by rw [o 4 (by omega) (by omega) (by omega) (by omega) (by omega)]; exact n3, by rw [o 31 (by omega) (by omega) (by omega) (by omega) (by omega)]; exact n4⟩, x4, kB, kG, kSS⟩
  · rw [if_neg h0, if_neg h0]
    by_cases h1 : c k = 1
    · obtain ⟨σ', b, a1, o, a3, a4⟩ := s17 (Or.inl rfl) w2 hT hA hk n2 k2
      rw [if_pos h1, if_pos h1, a1, hb_ci_s, hbb_01, hb_g_t, hb_g_nil]
      have fr : dFr σ σ' := ⟨fun x p _ _ _ _ u => o x u (by omega) (by omega) (by omega), fun i _ => by rw [o 0 (by omega) (by omega) (by omega) (by omega)], a3, fun i _ => by rw [o 4 (by omega) (by omega) (by omega) (by omega)], fun i _ => by rw [o 31 (by omega) (by omega) (by omega) (by omega)]⟩
      have kFF : kF σ' D.1 := by unfold kF; rw [o 7 (by omega) (by omega) (by omega) (by omega), o 8 (by omega) (by omega) (by omega) (by omega), o 9 (by omega) (by omega) (by omega) (by omega)]; exact k1
      have kG : kL σ' D.2.2.1 4 := by unfold kL; rw [o (4 + 2) (by omega) (by omega) (by omega) (by omega), o (4 + 1) (by omega) (by omega) (by omega) (by omega)]; exact k3
      have kSS : kS σ' D.2.2.2 := by unfold kS; rw [o 32 (by omega) (by omega) (by omega) (by omega), o 33 (by omega) (by omega) (by omega) (by omega), o 34 (by omega) (by omega) (by omega) (by omega)]; exact k4
      refine ⟨σ', b, rfl, fr, ?_⟩
      cases hp : pLn c k D.2.1 with
      | inl e => rw [hp] at a4; obtain ⟨x1, x2, x3, x4⟩ := a4; exact ⟨x1, x2, x3, kFF, x4, kG, kSS⟩
      | inr p => rw [hp] at a4; obtain ⟨x1, x2, x3, x4⟩ := a4; exact ⟨x1, x2, ⟨by rw [o 0 (by omega) (by omega) (by omega) (by omega)]; exact n1, x3, by rw [o 4 (by omega) (by omega) (by omega) (by omega)]; exact n3, by rw [o 31 (by omega) (by omega) (by omega) (by omega)]; exact n4⟩, kFF, x4, kG, kSS⟩
    · rw [if_neg h1, if_neg h1]
      by_cases h2 : c k = 2
      · obtain ⟨σ', b, a1, o, a3, a4⟩ := s17 (Or.inr rfl) w3 hT hA hk n3 k3
        rw [if_pos h2, if_pos h2, a1, hb_ci_s, hbb_01, hb_g_t, hb_g_nil]
        have fr : dFr σ σ' := ⟨fun x p _ _ _ _ u => o x u (by omega) (by omega) (by omega), fun i _ => by rw [o 0 (by omega) (by omega) (by omega) (by omega)], fun i _ => by rw [o 1 (by omega) (by omega) (by omega) (by omega)], a3, fun i _ => by rw [o 31 (by omega) (by omega) (by omega) (by omega)]⟩
        have kFF : kF σ' D.1 := by unfold kF; rw [o 7 (by omega) (by omega) (by omega) (by omega), o 8 (by omega) (by omega) (by omega) (by omega), o 9 (by omega) (by omega) (by omega) (by omega)]; exact k1
        have kB : kL σ' D.2.1 1 := by unfold kL; rw [o (1 + 2) (by omega) (by omega) (by omega) (by omega), o (1 + 1) (by omega) (by omega) (by omega) (by omega)]; exact k2
        have kSS : kS σ' D.2.2.2 := by unfold kS; rw [o 32 (by omega) (by omega) (by omega) (by omega), o 33 (by omega) (by omega) (by omega) (by omega), o 34 (by omega) (by omega) (by omega) (by omega)]; exact k4
        refine ⟨σ', b, rfl, fr, ?_⟩
        cases hp : pLn c k D.2.2.1 with
        | inl e => rw [hp] at a4; obtain ⟨x1, x2, x3, x4⟩ := a4; exact ⟨x1, x2, x3, kFF, kB, x4, kSS⟩
        | inr p => rw [hp] at a4; obtain ⟨x1, x2, x3, x4⟩ := a4; exact ⟨x1, x2, ⟨by rw [o 0 (by omega) (by omega) (by omega) (by omega)]; exact n1, by rw [o 1 (by omega) (by omega) (by omega) (by omega)]; exact n2, x3, by rw [o 31 (by omega) (by omega) (by omega) (by omega)]; exact n4⟩, kFF, kB, x4, kSS⟩
      · rw [if_neg h2, if_neg h2]
        by_cases h3 : c k = 3
        · obtain ⟨σ', b, a1, o, a3, a4⟩ := s18 w4.1 hT hA hk n4 k4
          rw [if_pos h3, if_pos h3, a1, hb_ci_s, hbb_01, hb_g_t, hb_g_nil]
          have fr : dFr σ σ' := ⟨fun x p q r t v u => o x u q r t v, fun i _ => by rw [o 0 (by omega) (by omega) (by omega) (by omega) (by omega)], fun i _ => by rw [o 1 (by omega) (by omega) (by omega) (by omega) (by omega)], fun i _ => by rw [o 4 (by omega) (by omega) (by omega) (by omega) (by omega)], a3⟩
          have kFF : kF σ' D.1 := by unfold kF; rw [o 7 (by omega) (by omega) (by omega) (by omega) (by omega), o 8 (by omega) (by omega) (by omega) (by omega) (by omega), o 9 (by omega) (by omega) (by omega) (by omega) (by omega)]; exact k1
          have kB : kL σ' D.2.1 1 := by unfold kL; rw [o (1 + 2) (by omega) (by omega) (by omega) (by omega) (by omega), o (1 + 1) (by omega) (by omega) (by omega) (by omega) (by omega)]; exact k2
          have kG : kL σ' D.2.2.1 4 := by unfold kL; rw [o (4 + 2) (by omega) (by omega) (by omega) (by omega) (by omega), o (4 + 1) (by omega) (by omega) (by omega) (by omega) (by omega)]; exact k3
          refine ⟨σ', b, rfl, fr, ?_⟩
          cases hp : pSt c k D.2.2.2 with
          | inl e => rw [hp] at a4; obtain ⟨x1, x2, x3, x4⟩ := a4; exact ⟨x1, x2, x3, kFF, kB, kG, x4⟩
          | inr p => rw [hp] at a4; obtain ⟨x1, x2, x3, x4⟩ := a4; exact ⟨x1, x2, ⟨by rw [o 0 (by omega) (by omega) (by omega) (by omega) (by omega)]; exact n1, by rw [o 1 (by omega) (by omega) (by omega) (by omega) (by omega)]; exact n2, by rw [o 4 (by omega) (by omega) (by omega) (by omega) (by omega)]; exact n3, x3⟩, kFF, kB, kG, x4⟩
        · obtain ⟨σ', r1, r2, r3, r4⟩ := s25 hT hA 1
          rw [show nI 1 = (1 : Int32) from rfl] at r1
          rw [if_neg h3, if_neg h3, r1, hb_ci_s]
          refine ⟨σ', false, rfl, ⟨fun x _ _ _ _ _ u => r2 x u, fun i _ => by rw [r2 0 (by omega)], fun i _ => by rw [r2 1 (by omega)], fun i _ => by rw [r2 4 (by omega)], fun i _ => by rw [r2 31 (by omega)]⟩, rfl, r3, r4, ?_, ?_, ?_, ?_⟩
          · unfold kF; rw [r2 7 (by omega), r2 8 (by omega), r2 9 (by omega)]; exact k1
          · unfold kL; rw [r2 (1 + 2) (by omega), r2 (1 + 1) (by omega)]; exact k2
          · unfold kL; rw [r2 (4 + 2) (by omega), r2 (4 + 1) (by omega)]; exact k3
          · unfold kS; rw [r2 32 (by omega), r2 33 (by omega), r2 34 (by omega)]; exact k4
end
