/-! THE JOINT INVARIANT of the class's cells and the reference's -/
def cF (σ : hbM) (F : hbF) : Prop := σ 0 8 = nI F.1 ∧ ∀ i, i < F.1 → σ 7 i = nI (F.2.1 i) ∧ σ 8 i = nI (F.2.2.1 i) ∧ σ 9 i = iI (F.2.2.2 i)
def cL (σ : hbM) (L : hbL) (c : Nat) : Prop := σ c 2 = nI L.1 ∧ ∀ i, i < L.1 → σ (c + 2) i = nI (L.2.1 i) ∧ ∀ j, j < L.2.1 i → σ (c + 1) (3 * i + j) = nI (L.2.2 (3 * i + j))
def jW (σ : hbM) (F : hbF) (B G : hbL) : Prop := gI σ ∧ mR σ (gP σ) F ∧ mL σ B 9 0 ∧ mL σ G 10 4 ∧ (∀ st, st < 1024 → σ 11 st = hbb (wAny B st B.1)) ∧ (∀ st, st < 1024 → σ 12 st = hbb (wGood B G st)) ∧ cF σ F ∧ cL σ B 1 ∧ cL σ G 4
def jP (σ : hbM) : Prop := ∀ k, k < 4 → ∃ v, 1 ≤ v ∧ v ≤ 99 ∧ σ 38 k = nI v ∧ σ 69 k = nI v
def jT (σ : hbM) : Prop := ∃ n, n ≤ 400 ∧ σ 39 3 = nI n ∧ σ 54 23 = nI n ∧ ∀ i, i < n → ∃ b, b < 256 ∧ σ 40 i = nI b ∧ σ 67 i = nI b
def jA (σ : hbM) : Prop := ∃ n, n ≤ 16 ∧ σ 31 6 = nI n ∧ σ 54 48 = nI n ∧ ∀ i, i < n → σ 35 i = σ 79 i
def jS (σ : hbM) : Prop := ∀ s, s < 8 → ((σ (15 + s) 1 = 0 ∧ σ 55 s = -1) ∨ (σ (15 + s) 1 = 1 ∧ ∃ l, l < 3 ∧ σ (15 + s) 2 = nI l ∧ σ 55 s = nI l)) ∧ (∃ n, n ≤ 40 ∧ σ (15 + s) 3 = nI n ∧ σ 56 s = nI n) ∧ ∀ k, k < 40 → σ (23 + s) k = σ 57 (40 * s + k)
def jF (σ : hbM) : Prop := σ 13 9 = σ 54 1 ∧ σ 13 10 = σ 54 24
/-- rounds, with the marks of endings and fates -/
def rJ (σ : hbM) (r : Nat) : Prop := rI σ r ∧ (∀ s, s < 1024 → ∃ v, v ≤ r ∧ σ 51 s = nI v) ∧ ∀ p, p < 17408 → ∃ v, v < 4 * (r + 1) ∧ σ 52 p = nI v
def jR (n : Nat) (σ : hbM) : Prop := ∃ r, r ≤ 137 * n ∧ rJ σ r
def J0 (σ : hbM) : Prop := (∃ F B G, jW σ F B G) ∧ jP σ ∧ jT σ ∧ jA σ ∧ jS σ ∧ jF σ
def J (n : Nat) (σ : hbM) : Prop := J0 σ ∧ jR n σ
theorem cS_cM {σ σ' : hbM} (h : cS σ σ') (i : Nat) : cM σ' i = cM σ i := by
  have e : ∀ c, (c < 44 ∨ 54 ≤ c) → tn σ' c = tn σ c := fun c hc => by funext i; unfold tn; rw [h c hc]
  unfold cM; rw [e 62 (by omega), e 63 (by omega), e 64 (by omega)]
theorem cS_mC {σ σ' : hbM} (h : cS σ σ') {i : Nat} (hi : mC σ i) : mC σ' i := by
  unfold mC; rw [h 62 (by omega), h 63 (by omega), h 64 (by omega)]; exact hi
theorem cS_mL {σ σ' : hbM} (h : cS σ σ') {L : hbL} {f o : Nat} (hL : mL σ L f o) : mL σ' L f o := by
  obtain ⟨k1, k2, k3⟩ := hL
  refine ⟨k1, by rw [h 54 (by omega)]; exact k2, fun i hi => ?_⟩
  obtain ⟨m1, m2⟩ := k3 i hi
  exact ⟨by rw [h 61 (by omega)]; exact m1, fun j hj => ⟨cS_mC h (m2 j hj).1, by rw [cS_cM h]; exact (m2 j hj).2⟩⟩
theorem cS_mR {σ σ' : hbM} (h : cS σ σ') {P : hbGP} {F : hbF} (w2 : mR σ P F) : mR σ' P F := by
  obtain ⟨⟨f1, f2, f3⟩, hn, hn2, hi, hT, hb, hbe, hl⟩ := w2
  refine ⟨⟨f1, by rw [h 54 (by omega)]; exact f2, fun i hi => by rw [h 58 (by omega), h 59 (by omega), h 60 (by omega)]; exact f3 i hi⟩, hn, by rw [h 54 (by omega)]; exact hn2, fun i hk => ?_, hT, hb, by rw [h 54 (by omega)]; exact hbe, fun v hv => by rw [h 68 (by omega)]; exact hl v hv⟩
  obtain ⟨a1, a2, a3, a4, a5, a6⟩ := hi i hk
  exact ⟨a1, by rw [h 65 (by omega)]; exact a2, a3, a4, fun x y => by rw [h 66 (by omega)]; exact a5 x y, fun x => ⟨cS_mC h (a6 x).1, by rw [cS_cM h]; exact (a6 x).2⟩⟩
/-- memories that agree but for the class's search cells -/
theorem J0_cS {σ σ' : hbM} (h : cS σ σ') (hJ : J0 σ) : J0 σ' := by
  obtain ⟨⟨F, B, G, w1, w2, w3, w4, w5, w6, w7, w8, w9⟩, h2, h3, h4, h5, h6⟩ := hJ
  have e : ∀ c, (c < 44 ∨ 54 ≤ c) → tn σ' c = tn σ c := fun c hc => by funext i; unfold tn; rw [h c hc]
  have eM : ∀ i, cM σ' i = cM σ i := fun i => by unfold cM; rw [e 62 (by omega), e 63 (by omega), e 64 (by omega)]
  have eC : ∀ i, mC σ i → mC σ' i := fun i hi => by unfold mC; rw [h 62 (by omega), h 63 (by omega), h 64 (by omega)]; exact hi
  have mLc : ∀ L f o, mL σ L f o → mL σ' L f o := fun L f o hL => by
    obtain ⟨k1, k2, k3⟩ := hL
    refine ⟨k1, by rw [h 54 (by omega)]; exact k2, fun i hi => ?_⟩
    obtain ⟨m1, m2⟩ := k3 i hi
    exact ⟨by rw [h 61 (by omega)]; exact m1, fun j hj => ⟨eC _ (m2 j hj).1, by rw [eM]; exact (m2 j hj).2⟩⟩
  refine ⟨⟨F, B, G, cS_gI h w1, ?_, mLc _ _ _ w3, mLc _ _ _ w4, fun st hs => by rw [h 11 (by omega)]; exact w5 st hs, fun st hs => by rw [h 12 (by omega)]; exact w6 st hs, ?_, ?_, ?_⟩, ?_, ?_, ?_, ?_, ?_⟩
  · rw [cS_gP h]
    obtain ⟨⟨f1, f2, f3⟩, hn, hn2, hi, hT, hb, hbe, hl⟩ := w2
    refine ⟨⟨f1, by rw [h 54 (by omega)]; exact f2, fun i hi => by rw [h 58 (by omega), h 59 (by omega), h 60 (by omega)]; exact f3 i hi⟩, hn, by rw [h 54 (by omega)]; exact hn2, fun i hk => ?_, hT, hb, by rw [h 54 (by omega)]; exact hbe, fun v hv => by rw [h 68 (by omega)]; exact hl v hv⟩
    obtain ⟨a1, a2, a3, a4, a5, a6⟩ := hi i hk
    exact ⟨a1, by rw [h 65 (by omega)]; exact a2, a3, a4, fun x y => by rw [h 66 (by omega)]; exact a5 x y, fun x => ⟨eC _ (a6 x).1, by rw [eM]; exact (a6 x).2⟩⟩
  · unfold cF; rw [h 0 (by omega), h 7 (by omega), h 8 (by omega), h 9 (by omega)]; exact w7
  · unfold cL; rw [h 1 (by omega), h 2 (by omega), h 3 (by omega)]; exact w8
  · unfold cL; rw [h 4 (by omega), h 5 (by omega), h 6 (by omega)]; exact w9
  · unfold jP; rw [h 38 (by omega), h 69 (by omega)]; exact h2
  · unfold jT; rw [h 39 (by omega), h 54 (by omega), h 40 (by omega), h 67 (by omega)]; exact h3
  · unfold jA; rw [h 31 (by omega), h 54 (by omega), h 35 (by omega), h 79 (by omega)]; exact h4
  · intro s hs
    rw [h (15 + s) (by omega), h 55 (by omega), h 56 (by omega), h (23 + s) (by omega), h 57 (by omega)]
    exact h5 s hs
  · unfold jF; rw [h 13 (by omega), h 54 (by omega)]; exact h6
/-- memories that agree but for the reference's search cells -/
theorem J0_mS {σ σ' : hbM} (h : mS σ σ') (hJ : J0 σ) : J0 σ' := by
  obtain ⟨⟨F, B, G, w1, w2, w3, w4, w5, w6, w7, w8, w9⟩, h2, h3, h4, h5, h6⟩ := hJ
  have k : ∀ c, c < 54 → σ' c = σ c := fun c hc => h.1 c (by omega) (Or.inl (by omega))
  have c0 : gI σ → gI σ' := by
    intro hg
    have e : ∀ c, c < 54 → tn σ' c = tn σ c := fun c hc => by funext i; unfold tn; rw [k c hc]
    obtain ⟨h1, h2, h3, h4, h5⟩ := hg
    refine ⟨?_, fun i hi => ?_, fun st hs => ?_, ?_, fun v hv => ?_⟩
    · rw [k 31 (by omega)]; exact h1
    · rw [e 31 (by omega)] at hi
      rw [k 32 (by omega), k 33 (by omega), k 34 (by omega), e 32 (by omega), e 33 (by omega)]
      exact h2 i hi
    · rw [k 10 (by omega)]; exact h3 st hs
    · rw [k 0 (by omega)]; exact h4
    · rw [k 37 (by omega)]; exact h5 v hv
  have cP : gP σ' = gP σ := by
    have e : ∀ c, c < 54 → tn σ' c = tn σ c := fun c hc => by funext i; unfold tn; rw [k c hc]
    unfold gP
    rw [e 31 (by omega), e 32 (by omega), e 33 (by omega), e 34 (by omega), e 10 (by omega), e 0 (by omega), e 37 (by omega), k 37 (by omega)]
  refine ⟨⟨F, B, G, c0 w1, by rw [cP]; exact mS_mR h w2, mS_mL h (Or.inl rfl) w3, mS_mL h (Or.inr rfl) w4, fun st hs => by rw [k 11 (by omega)]; exact w5 st hs, fun st hs => by rw [k 12 (by omega)]; exact w6 st hs, ?_, ?_, ?_⟩, ?_, ?_, ?_, ?_, ?_⟩
  · unfold cF; rw [k 0 (by omega), k 7 (by omega), k 8 (by omega), k 9 (by omega)]; exact w7
  · unfold cL; rw [k 1 (by omega), k 2 (by omega), k 3 (by omega)]; exact w8
  · unfold cL; rw [k 4 (by omega), k 5 (by omega), k 6 (by omega)]; exact w9
  · unfold jP; rw [k 38 (by omega), h.1 69 (by omega) (by omega)]; exact h2
  · unfold jT; rw [k 39 (by omega), h.2 23 (by omega) (by omega) (by omega) (by omega), k 40 (by omega), h.1 67 (by omega) (by omega)]; exact h3
  · unfold jA; rw [k 31 (by omega), h.2 48 (by omega) (by omega) (by omega) (by omega), k 35 (by omega), h.1 79 (by omega) (by omega)]; exact h4
  · intro s hs
    rw [k (15 + s) (by omega), h.1 55 (by omega) (by omega), h.1 56 (by omega) (by omega), k (23 + s) (by omega), h.1 57 (by omega) (by omega)]
    exact h5 s hs
  · unfold jF; rw [k 13 (by omega), h.2 1 (by omega) (by omega) (by omega) (by omega), h.2 24 (by omega) (by omega) (by omega) (by omega)]; exact h6
theorem rJ_c {σ σ' : hbM} {r : Nat} (h : ∀ c, (c = 44 ∨ c = 48 ∨ c = 51 ∨ c = 52) → σ' c = σ c) (hr : rJ σ r) : rJ σ' r := by
  obtain ⟨⟨a1, a2, a3⟩, h2, h3⟩ := hr
  exact ⟨⟨by rw [h 44 (by omega)]; exact a1, a2, by rw [h 48 (by omega)]; exact a3⟩, by rw [h 51 (by omega)]; exact h2, by rw [h 52 (by omega)]; exact h3⟩
theorem jR_mS {n : Nat} {σ σ' : hbM} (h : mS σ σ') (hr : jR n σ) : jR n σ' := by
  obtain ⟨r, h1, h2⟩ := hr
  exact ⟨r, h1, rJ_c (fun c hc => h.1 c (by omega) (by omega)) h2⟩
theorem jR_le {n m : Nat} {σ : hbM} (h : n ≤ m) (hr : jR n σ) : jR m σ := by
  obtain ⟨r, h1, h2⟩ := hr
  exact ⟨r, by omega, h2⟩
/-- both answer alike, and the invariant stays -/
def Ok2 (n mX mM : Nat) (as : List Value) (σ : hbM) : Prop := ∃ r σ1 σ2, hb_ev hbSH mX (.ref 13 :: as) σ = some (some (.int r), σ1) ∧ hb_ev hbSH mM (.ref 54 :: as) σ1 = some (some (.int r), σ2) ∧ J (n + 1) σ2
/-- a search: the class changes its search cells, the reference its own -/
theorem Ok2.of {n mX mM : Nat} {as : List Value} {σ σ1 : hbM} {r : Int32} (hJ : J n σ) (h1 : hb_ev hbSH mX (.ref 13 :: as) σ = some (some (.int r), σ1)) (c1 : cS σ σ1) (r1 : jR (n + 1) σ1) (h2 : J0 σ1 → ∃ σ2, hb_ev hbSH mM (.ref 54 :: as) σ1 = some (some (.int r), σ2) ∧ mS σ1 σ2) : Ok2 n mX mM as σ := by
  have j1 := J0_cS c1 hJ.1
  obtain ⟨σ2, k1, k2⟩ := h2 j1
  exact ⟨r, σ1, σ2, h1, k1, J0_mS k2 j1, jR_mS k2 r1⟩
